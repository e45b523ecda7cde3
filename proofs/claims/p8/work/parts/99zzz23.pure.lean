section
/-! 99zzzzzzzzzzzzzzzzxa.xtwq -/
/-! two: what the reference's skein leaves alone -/
abbrev skE (H d g : Nat) : Prop := 1000 * (d + 5) ≤ g ∨ g = 41 ∨ g = H
section XTWQ
variable {X : (Nat → Nat → Int32) → Prop} {z : ow_MS}
theorem tp_leafC (c j a : Nat) (s : Int64) (y : ow_MS) (_ : c ≤ j + 6) (hj : j ≤ 12) (_ : 16 ≤ a) (_ : a ≤ 64) (h46 : y.1 46 = 0) : Te (fun K => qe_X13_leaf K (nI c) s (nI a - 40) (nI j) y) (fun z1 => fr (fun g => g = 42) y z1) := by
  refine e_X13_leaf ?_
  refine u_X13_leaf_0 ?_; unfold qm_X13_leaf_0
  exact w_rdF h46 (w_ifT rfl (w_rdJ ml42 rfl (by omega) rfl (w_if (fun _ => w_wrJ ml42 rfl (by omega) (w_some (fr_J rfl))) (fun _ => w_wrJ ml42 rfl (by omega) (w_some (fr_J rfl))))))
theorem tp_leafT (c j a : Nat) (s : Int64) (y : ow_MS) (hcj : c ≤ j + 6) (hj : j ≤ 12) (ha : 16 ≤ a) (ha2 : a ≤ 64) (h46 : y.1 46 = 1) : Te (fun K => qe_X13_leaf K (nI c) s (nI a - 40) (nI j) y) (fun z1 => fr (fun g => g = 44) y z1) := by
  have key : 1 ≤ c → ∀ (d t : Nat) (w : Int64) (y1 : ow_MS), t + d = c → fr (fun g => g = 44) y y1 → Tt (fun K i => q_X13_leaf K i 1 (nI c) (nI a - 40) (nI j) (nI (c - 1)) (nI t) s w 0 0 0 y1) (fun z1 => fr (fun g => g = 44) y z1) := by
    intro hc d
    induction d with
    | zero =>
      intro t w y1 ht hf
      refine u_X13_leaf_1 ?_; unfold qm_X13_leaf_1
      exact w_ltT (by omega) (by omega) (w_some hf)
    | succ d ih =>
      intro t w y1 ht hf
      have ix := lf_ix (j := j) (k := c - 1) (t := t) (a := a) hj (by omega) (by omega) ha ha2
      have hlt : 129 * (j + 20 - (c - 1)) + a + 2 * t + 24 - (c - 1) < 5289 := by omega
      have c2 : ∀ (y0 y2 : Int64), Tt (fun K i => q_X13_leaf K i 2 (nI c) (nI a - 40) (nI j) (nI (c - 1)) (nI t) s w (nI (129 * (j + 20 - (c - 1)) + a + 2 * t + 24 - (c - 1))) y0 y2 y1) (fun z1 => fr (fun g => g = 44) y z1) := by
        intro y0 y2
        refine u_X13_leaf_2 ?_; unfold qm_X13_leaf_2
        rw [nI_1]
        have hnz : (nI (t + 1)).toInt64 ≠ 0 := by
          rw [nI_l (by omega)]
          exact fun e => by
            have := (pk_lEQ (a := t + 1) (b := 0) (by omega) (by omega)).mp e
            omega
        exact w_wrJ ml44 rfl hlt (w_nzJ hnz (ih (t + 1) _ _ (by omega) (fr_J2 hf rfl)))
      refine u_X13_leaf_1 ?_; unfold qm_X13_leaf_1
      rw [ix]
      exact w_ltF (by omega) (by omega) (w_rdJ ml44 rfl hlt rfl (w_if (fun _ => c2 _ _) (fun _ => c2 _ _)))
  rcases Nat.eq_zero_or_pos c with h0 | h0
  · rw [h0]
    refine e_X13_leaf ?_
    refine u_X13_leaf_0 ?_; unfold qm_X13_leaf_0
    rw [show nI 0 - 1 = -1 from rfl]
    refine w_rdF h46 (w_ifF (by decide) ?_)
    refine u_X13_leaf_1 ?_; unfold qm_X13_leaf_1
    exact w_ifT (by decide) (w_some fr_rf)
  · refine e_X13_leaf ?_
    refine u_X13_leaf_0 ?_; unfold qm_X13_leaf_0
    rw [show nI c - 1 = nI (c - 1) from pk_sub (b := 1) h0]
    exact w_rdF h46 (w_ifF (by decide) (key h0 c 0 s y (by omega) fr_rf))
theorem tp_skeinH {e : Int32} {H : Nat} (hH : H = 42 ∨ H = 44) (hleaf : ∀ (c j a : Nat) (s : Int64) (y : ow_MS), c ≤ j + 6 → j ≤ 12 → 16 ≤ a → a ≤ 64 → y.1 46 = e → Te (fun K => qe_X13_leaf K (nI c) s (nI a - 40) (nI j) y) (fun z1 => fr (fun g => g = H) y z1)) : ∀ (f depth dd k j a : Nat) (A : rn_L) (s : Int64) (z : ow_MS), f < dd → depth + f ≤ 12 → j ≤ depth → wkF A.flatten → A.flatten.length ≤ 24 → A.length ≤ 6 + j → rn_At z (1000 * (depth + 4)) A [] → gPre A k → ouT A k f → 40 ≤ a + 2 * depth → a ≤ 40 + 2 * depth → z.1 46 = e → Te (fun K => qd_X13_skein K dd (nI depth) s (nI a - 40) (nI j) z) (fun z1 => fr (skE H depth) z z1) := by
  intro f
  induction f using Nat.strongRecOn with
  | ind f ih =>
  intro depth dd k j a A s z hdd hdf hj hF hl hC hA hg ho ha1 ha2 h46
  obtain ⟨dd, rfl⟩ : ∃ d', dd = d' + 1 := ⟨dd - 1, by omega⟩
  have hd := wkF_ok hF
  have hn : mw_net (1000 * (depth + 4)) := pnL (by omega)
  have hn2 : mw_net (1000 * (depth + 1 + 4)) := pnL (by omega)
  have cx : ∀ {i}, i < A.flatten.length → crs A i < 40 ∧ uns A i < 2 := fun hi => by
    obtain ⟨g1, g2, -⟩ := hF.2 _ (List.mem_of_getElem? (vAt_of hi))
    exact ⟨g1, g2⟩
  let Q : ow_MS → Prop := fun z1 => fr (skE H depth) z z1
  have mono41 : ∀ {y : ow_MS}, fr (fun g => g = 41) z y → fr (skE H depth) z y := fun hf => fr_mono (fun g hg => Or.inr (Or.inl hg)) hf
  have aA : ∀ {y : ow_MS}, fr (fun g => g = 41) z y → rn_At y (1000 * (depth + 4)) A [] := fun hf => fr_At hf (fun g hg => by omega) hA
  have aV : ∀ {y : ow_MS}, fr (fun g => g = 41) z y → y.1 (1000 * (depth + 4) + 1) = nI A.flatten.length := fun hf => by rw [(aA hf).1, List.append_nil]
  have c5 : ∀ (x8 : Int32) (y : ow_MS), fr (fun g => g = 41) z y → Tt (fun K i => q_X13_skein K (qd_X13_skein K dd) i 5 (nI depth) (nI a - 40) (nI j) (-1) x8 0 0 0 s (1000 * (depth + 4)) 0 0 0 0 0 0 0 0 y) Q := by
    intro x8 y hf
    refine u_X13_skein_5 ?_; unfold qm_X13_skein_5
    refine w_ifT rfl (w_rdF (aA hf).2.1 (w_cs0 (hleaf _ _ _ _ _ (by omega) (by omega) (by omega) (by omega) (by rw [(hf 46 (by decide)).1]; exact h46)) (fun z1 h9 => w_some ?_)))
    exact fr_tr (mono41 hf) (fr_mono (fun g hg => Or.inr (Or.inr hg)) h9)
  have bad : ∀ (v : Nat) (x8 : Int32) (y : ow_MS), fr (fun g => g = 41) z y → v < A.flatten.length → (∀ u, u < v → crs A u ≠ crs A v) → uns A v ≠ 0 → (∀ u, u < v → (∀ t, t < u → crs A t ≠ crs A u) → uns A u = 0) → Tt (fun K i => q_X13_skein K (qd_X13_skein K dd) i 5 (nI depth) (nI a - 40) (nI j) (nI v) x8 0 0 0 s (1000 * (depth + 4)) 0 0 0 0 0 0 0 0 y) Q := by
    intro v x8 y hf hv hfst hb hgood
    have hAy := aA hf
    obtain ⟨g1, g2, g3⟩ := rn_c_in A v hv
    have hml := mtf_lt hd hv
    have hmc := crs_mtf hd hv
    have hmn := mtf_ne hd hv
    have hvm : v < mtf A v := by
      rcases Nat.lt_or_ge (mtf A v) v with h8 | h8
      · exact absurd hmc (hfst _ h8)
      · omega
    obtain ⟨fc, hfc, kF, kg, ko⟩ := sk_ch (x := crs A v) hF hg ho hv rfl hfst hb hgood
    have c13 : ∀ (a' : Nat) (x : Int32) (x11 : Int32) (s1 : Int64) (y5 : ow_MS), x = nI a' - 40 → 40 ≤ a' + 2 * (depth + 1) → a' ≤ 40 + 2 * (depth + 1) → fr (skE H depth) z y5 → rn_At y5 (1000 * (depth + 1 + 4)) (A.map (List.map (flp (fun y => decide (y = crs A v))))) [] → Tt (fun K i => q_X13_skein K (qd_X13_skein K dd) i 13 (nI depth) (nI a - 40) (nI j) (nI v) (nI (rn_c A v)) (nI (crs A v)) (nI (mtf A v)) x11 s (1000 * (depth + 4)) (1000 * (depth + 1 + 4)) x 0 (nI (depth + 1)) 0 0 s1 0 y5) Q := by
      intro a' x x11 s1 y5 hx h1 h2 hf5 hA5
      rw [hx]
      refine u_X13_skein_13 ?_; unfold qm_X13_skein_13
      refine w_cs0 (ih fc (by omega) (depth + 1) dd (v + 1) j a' _ s1 y5 (by omega) (by omega) (by omega) kF (by rw [flp_len]; exact hl) (by rw [List.length_map]; exact hC) hA5 kg ko h1 h2 (by rw [(hf5 46 (by unfold skE; omega)).1]; exact h46)) (fun z6 h6 => w_some ?_)
      exact fr_tr hf5 (fr_mono (fun g hg => by unfold skE at hg ⊢; omega) h6)
    have c8 : ∀ (t0 : Int32), Tt (fun K i => q_X13_skein K (qd_X13_skein K dd) i 8 (nI depth) (nI a - 40) (nI j) (nI v) (nI (rn_c A v)) (nI (crs A v)) (nI (mtf A v)) 0 s (1000 * (depth + 4)) 0 t0 0 0 0 0 0 0 y) Q := by
      intro t0
      refine u_X13_skein_8 ?_; unfold qm_X13_skein_8
      rw [show nI depth + 1 = nI (depth + 1) from nI_1 _]
      refine w_rdN rfl (by omega) (w_cs0 (tp_smoothIn2 hn hn2 (by omega) hl (by omega) hAy g1 g2 g3 hvm hml) (fun z2 ⟨⟨q, hq, C, b1, b2, b3, b4, b5⟩, s2, f2⟩ => ?_))
      obtain ⟨fs, hfs, mF, mg, mo, ml⟩ := sk_sm hF hg ho hv hml hvm hmc hfst hb hgood b3 b4 (fun i hi => b5 i hi ⟨by omega, by omega, by omega⟩)
      have hz2 : fr (skE H depth) z z2 := fr_tr (mono41 hf) (fr_mono (fun g hg => Or.inl (by omega)) f2)
      have hA2 : rn_At z2 (1000 * (depth + 4)) A [] := fr_At f2 (fun g hg => by omega) hAy
      have c11 : ∀ (a' : Nat) (x : Int32) (s1 : Int64), x = nI a' - 40 → 40 ≤ a' + 2 * (depth + 1) → a' ≤ 40 + 2 * (depth + 1) → Tt (fun K i => q_X13_skein K (qd_X13_skein K dd) i 11 (nI depth) (nI a - 40) (nI j) (nI v) (nI (rn_c A v)) (nI (crs A v)) (nI (mtf A v)) t0 s (1000 * (depth + 4)) (1000 * (depth + 1 + 4)) x 0 (nI (depth + 1)) 0 0 s1 0 z2) Q := by
        intro a' x s1 hx h1 h2
        rw [hx]
        refine u_X13_skein_11 ?_; unfold qm_X13_skein_11
        rw [show nI depth + 1 = nI (depth + 1) from nI_1 _, show nI j + 1 = nI (j + 1) from nI_1 _]
        refine w_cs0 (ih fs (by omega) (depth + 1) dd v (j + 1) a' _ s1 z2 (by omega) (by omega) (by omega) mF (by omega) (by rw [List.length_map, b1]; omega) b2 mg mo h1 h2 (by rw [(hz2 46 (by unfold skE; omega)).1]; exact h46)) (fun z3 h3 => ?_)
        have hA3 : rn_At z3 (1000 * (depth + 4)) A [] := fr_At h3 (fun g hg => by unfold skE at hg; omega) hA2
        refine w_cs0 (tn_copy hn2 hn (by omega) (by omega) (by omega) hA3) (fun z4 ⟨hA4, f4, _⟩ => w_cs0 (tp_changeIn hn2 (by omega) (cx hv).1 (fun u hu => ⟨(cx hu).2, (cx hu).1⟩) hA4) (fun z5 ⟨hA5, f5, _⟩ => ?_))
        have hz5 : fr (skE H depth) z z5 := fr_tr hz2 (fr_tr (fr_mono (fun g hg => by unfold skE at hg ⊢; omega) h3) (fr_tr (fr_mono (fun g hg => Or.inl (by omega)) f4) (fr_mono (fun g hg => Or.inl (by omega)) f5)))
        refine w_rdF rfl (w_if (fun _ => c13 40 _ _ _ z5 rfl (by omega) (by omega) hz5 hA5) (fun _ => w_if (fun _ => ?_) (fun _ => ?_)))
        · refine u_X13_skein_12 ?_; unfold qm_X13_skein_12
          exact c13 (a - 2) _ _ _ z5 (sk_pw2 (by omega)).1 (by omega) (by omega) hz5 hA5
        · refine u_X13_skein_12 ?_; unfold qm_X13_skein_12
          exact c13 (a + 2) _ _ _ z5 (sk_pw2 (by omega)).2 (by omega) (by omega) hz5 hA5
      have c9 : ∀ (y0 : Int64), Tt (fun K i => q_X13_skein K (qd_X13_skein K dd) i 9 (nI depth) (nI a - 40) (nI j) (nI v) (nI (rn_c A v)) (nI (crs A v)) (nI (mtf A v)) t0 s (1000 * (depth + 4)) (1000 * (depth + 1 + 4)) 0 (nI (depth + 1)) 0 0 y0 0 0 z2) Q := by
        intro y0
        refine u_X13_skein_9 ?_; unfold qm_X13_skein_9
        refine w_rdF rfl (w_if (fun _ => c11 40 _ _ rfl (by omega) (by omega)) (fun _ => w_if (fun _ => ?_) (fun _ => ?_)))
        · refine u_X13_skein_10 ?_; unfold qm_X13_skein_10
          exact c11 (a - 1) _ _ (sk_pw (by omega)).1 (by omega) (by omega)
        · refine u_X13_skein_10 ?_; unfold qm_X13_skein_10
          exact c11 (a + 1) _ _ (sk_pw (by omega)).2 (by omega) (by omega)
      exact w_if (fun _ => c9 _) (fun _ => c9 _)
    have c7 : ∀ (d w : Nat), w + d = mtf A v → v < w → Tt (fun K i => q_X13_skein K (qd_X13_skein K dd) i 7 (nI depth) (nI a - 40) (nI j) (nI v) (nI (rn_c A v)) (nI (crs A v)) (nI w) 0 s (1000 * (depth + 4)) 0 0 0 0 0 0 0 0 y) Q := by
      intro d
      induction d with
      | zero =>
        intro w hw hvw
        have hw : w = mtf A v := by omega
        subst hw
        refine u_X13_skein_7 ?_; unfold qm_X13_skein_7
        exact w_rdI (pl4 hn) rfl (by omega) (at_cu hAy hml).1 (w_ifT (by rw [hmc]) (w_rdI (pl6 hn) rfl (cx hv).1 rfl (w_if (fun _ => c8 _) (fun _ => c8 _))))
      | succ d ih7 =>
        intro w hw hvw
        have hwl : w < A.flatten.length := by omega
        refine u_X13_skein_7 ?_; unfold qm_X13_skein_7
        rw [show nI w + 1 = nI (w + 1) from nI_1 _]
        refine w_rdI (pl4 hn) rfl (by omega) (at_cu hAy hwl).1 (w_ifF (fun e9 => ?_) (ih7 (w + 1) (by omega) (by omega)))
        have e8 := (nI_eq (by have := (cx hwl).1; omega) (by have := (cx hv).1; omega)).mp e9
        exact sk_two hd hv hml hwl (by omega) hmc (by omega) (by omega) e8
    have c6 : ∀ (d c : Nat), c + d = rn_c A v → Tt (fun K i => q_X13_skein K (qd_X13_skein K dd) i 6 (nI depth) (nI a - 40) (nI j) (nI v) (nI c) 0 0 0 s (1000 * (depth + 4)) 0 0 0 0 0 0 0 0 y) Q := by
      intro d
      induction d with
      | zero =>
        intro c hc
        have hc : c = rn_c A v := by omega
        subst hc
        refine u_X13_skein_6 ?_; unfold qm_X13_skein_6
        rw [show nI (rn_c A v) + 1 = nI (rn_c A v + 1) from nI_1 _, show nI v + 1 = nI (v + 1) from nI_1 _]
        exact w_rdI (pl3 hn) rfl (by omega) (hAy.2.2.1 _ (by omega)) (w_ltT (by have := rn_b_le A (rn_c A v + 1); unfold rn_b at this; omega) g3 (w_rdI (pl4 hn) rfl (by omega) (at_cu hAy hv).1 (c7 (mtf A v - (v + 1)) (v + 1) (by omega) (by omega))))
      | succ d ih6 =>
        intro c hc
        refine u_X13_skein_6 ?_; unfold qm_X13_skein_6
        rw [show nI c + 1 = nI (c + 1) from nI_1 _]
        have hle : rn_b A (c + 1) ≤ rn_b A (rn_c A v) := rn_b_mono2 (by omega)
        exact w_rdI (pl3 hn) rfl (by omega) (hAy.2.2.1 _ (by omega)) (w_ltF (by omega) (show rn_b A (c + 1) ≤ v by omega) (ih6 (c + 1) (by omega)))
    refine u_X13_skein_5 ?_; unfold qm_X13_skein_5
    exact w_ifF (rn_neg1 (by omega)) (c6 (rn_c A v) 0 (by omega))
  have scan : ∀ (d v : Nat) (y : ow_MS), v + d = A.flatten.length → fr (fun g => g = 41) z y → metR A v y → (∀ u, u < v → (∀ t, t < u → crs A t ≠ crs A u) → uns A u = 0) → Tt (fun K i => q_X13_skein K (qd_X13_skein K dd) i 2 (nI depth) (nI a - 40) (nI j) (-1) (nI v) 0 0 0 s (1000 * (depth + 4)) 0 0 0 0 0 0 0 0 y) Q := by
    intro d
    induction d with
    | zero =>
      intro v y hv hf hm hgd
      refine u_X13_skein_2 ?_; unfold qm_X13_skein_2
      exact w_rdF (aV hf) (w_leT (by omega) (by omega) (c5 _ y hf))
    | succ d ihs =>
      intro v y hv hf hm hgd
      have hvl : v < A.flatten.length := by omega
      have hcv := cx hvl
      have next : ∀ (y2 : ow_MS), fr (fun g => g = 41) z y2 → metR A (v + 1) y2 → (∀ u, u < v + 1 → (∀ t, t < u → crs A t ≠ crs A u) → uns A u = 0) → Tt (fun K i => q_X13_skein K (qd_X13_skein K dd) i 4 (nI depth) (nI a - 40) (nI j) (-1) (nI v) (nI (crs A v)) 0 0 s (1000 * (depth + 4)) 0 0 0 0 0 0 0 0 y2) Q := by
        intro y2 hf2 hm2 hg2
        refine u_X13_skein_4 ?_; unfold qm_X13_skein_4
        rw [show nI v + 1 = nI (v + 1) from nI_1 _]
        exact ihs (v + 1) y2 (by omega) hf2 hm2 hg2
      refine u_X13_skein_2 ?_; unfold qm_X13_skein_2
      refine w_rdF (aV hf) (w_leF (by omega) hvl (w_ifT rfl (w_rdI (pl4 hn) rfl (by omega) (at_cu (aA hf) hvl).1 (w_rdI ml41 rfl hcv.1 rfl ?_))))
      rcases hm _ hcv.1 with ⟨e0, hno⟩ | ⟨e1, u, hu, hue⟩
      · rw [e0]
        have hf2 : fr (fun g => g = 41) z (usI y 41 (crs A v) (vp_nar .boolean 1)) := fr_I2 hf rfl
        refine w_ifT rfl (w_wrZ ml41 rfl hcv.1 (w_rdI (pl5 hn) rfl (by omega) (at_cu (aA hf2) hvl).2 (w_if (fun h9 => ?_) (fun h9 => ?_))))
        · have hb : uns A v ≠ 0 := fun e => by rw [e] at h9; exact absurd h9 (by decide)
          refine u_X13_skein_3 ?_; unfold qm_X13_skein_3
          refine u_X13_skein_4 ?_; unfold qm_X13_skein_4
          rw [show nI v + 1 = nI (v + 1) from nI_1 _]
          refine u_X13_skein_2 ?_; unfold qm_X13_skein_2
          exact w_rdF (aV hf2) (w_le (by omega) (by omega) (fun _ => bad v _ _ hf2 hvl hno hb hgd) (fun _ => w_ifF (rn_neg1 (by omega)) (bad v _ _ hf2 hvl hno hb hgd)))
        · have hb : uns A v = 0 := by
            rcases Nat.eq_zero_or_pos (uns A v) with h8 | h8
            · exact h8
            · exact absurd (show nI (uns A v) = 1 by rw [show uns A v = 1 by omega]; rfl) h9
          refine u_X13_skein_3 ?_; unfold qm_X13_skein_3
          refine next _ hf2 (fun x hx => ?_) (fun u hu hfu => ?_)
          · by_cases hxv : x = crs A v
            · rw [hxv]
              exact Or.inr ⟨po_usI_at.trans (by decide), v, by omega, rfl⟩
            · rcases hm x hx with ⟨a1, a2⟩ | ⟨a1, u, hu, a2⟩
              · refine Or.inl ⟨rd_ne hxv a1, fun u hu e => ?_⟩
                by_cases huv : u = v
                · rw [huv] at e
                  exact hxv e.symm
                · exact a2 u (by omega) e
              · exact Or.inr ⟨rd_ne hxv a1, u, by omega, a2⟩
          · by_cases huv : u = v
            · rw [huv]; exact hb
            · exact hgd u (by omega) hfu
      · rw [e1]
        refine w_ifF (by decide) (next y hf (fun x hx => ?_) (fun t ht hft => ?_))
        · rcases hm x hx with ⟨a1, a2⟩ | ⟨a1, t, ht, a2⟩
          · refine Or.inl ⟨a1, fun t ht e => ?_⟩
            by_cases htv : t = v
            · rw [htv] at e
              exact a2 u hu (hue.trans e)
            · exact a2 t (by omega) e
          · exact Or.inr ⟨a1, t, by omega, a2⟩
        · by_cases htv : t = v
          · rw [htv] at hft
            exact absurd hue (hft u hu)
          · exact hgd t (by omega) hft
  have clr : ∀ (d i : Nat) (y : ow_MS), i + d = 40 → fr (fun g => g = 41) z y → (∀ x, x < i → y.2.1 41 x = 0) → Tt (fun K t => q_X13_skein K (qd_X13_skein K dd) t 1 (nI depth) (nI a - 40) (nI j) (nI i) 0 0 0 0 s (1000 * (depth + 4)) 0 0 0 0 0 0 0 0 y) Q := by
    intro d
    induction d with
    | zero =>
      intro i y hi hf hx
      refine u_X13_skein_1 ?_; unfold qm_X13_skein_1
      exact w_leT (a := 40) (by omega) (by omega) (scan A.flatten.length 0 y (by omega) hf (fun x h9 => Or.inl ⟨hx x (by omega), fun u hu => absurd hu (by omega)⟩) (fun u hu => absurd hu (by omega)))
    | succ d ihc =>
      intro i y hi hf hx
      refine u_X13_skein_1 ?_; unfold qm_X13_skein_1
      rw [show nI i + 1 = nI (i + 1) from nI_1 _]
      refine w_leF (a := 40) (by omega) (by omega) (w_wrZ ml41 rfl (by omega) (ihc (i + 1) _ (by omega) (fr_I2 hf rfl) (fun x h9 => ?_)))
      by_cases hxi : x = i
      · rw [hxi]
        exact po_usI_at.trans (by decide)
      · exact rd_ne hxi (hx x (by omega))
  refine w_qd ?_
  refine u_X13_skein_0 ?_; unfold qm_X13_skein_0
  exact w_rdN rfl (by omega) (clr 40 0 z (by omega) fr_rf (fun x hx => absurd hx (by omega)))
theorem tp_skeinH0 {e : Int32} {H : Nat} (hH : H = 42 ∨ H = 44) (hleaf : ∀ (c j a : Nat) (s : Int64) (y : ow_MS), c ≤ j + 6 → j ≤ 12 → 16 ≤ a → a ≤ 64 → y.1 46 = e → Te (fun K => qe_X13_leaf K (nI c) s (nI a - 40) (nI j) y) (fun z1 => fr (fun g => g = H) y z1)) {A : rn_L} {c : Nat} (hok : okF A.flatten c) (hc : c ≤ 12) (hC : A.length ≤ 6) (hA : rn_At z 4000 A []) (h46 : z.1 46 = e) : Te (fun K => qe_X13_skein K 0 1 0 0 z) (fun z1 => fr (skE H 0) z z1) := by
  have hl := okF_len hok
  have hw : wkF A.flatten := okF_wk (by omega) hok
  have ho : ouT A 0 c := ⟨List.range c, by rw [List.length_range]; exact Nat.le_refl _, fun v hv => Or.inr (List.mem_range.mpr ((hok.2 _).mp (List.mem_of_getElem? (vAt_of hv))).1)⟩
  exact tp_skeinH hH hleaf c 0 16 0 0 40 A 1 z (by omega) (by omega) (Nat.le_refl _) hw (by omega) (by omega) hA (fun v hv => absurd hv (by omega)) ho (by omega) (by omega) h46
end XTWQ
end
section
/-! 99zzzzzzzzzzzzzzzzy.xtwo -/
/-! two: the reference's answer, exactly -/
/-- what two answers -/
def twN9 (F : pz9) (i j v : Int32) : Prop := (-64 ≤ i.toInt ∧ i.toInt ≤ 64 ∧ -20 ≤ j.toInt ∧ j.toInt ≤ 20 → v = iI (F i.toInt j.toInt)) ∧ (¬ (-64 ≤ i.toInt ∧ i.toInt ≤ 64 ∧ -20 ≤ j.toInt ∧ j.toInt ≤ 20) → v = 0)
theorem twN_uni {F : pz9} {i j v w : Int32} (h1 : twN9 F i j v) (h2 : twN9 F i j w) : v = w := by
  by_cases c : -64 ≤ i.toInt ∧ i.toInt ≤ 64 ∧ -20 ≤ j.toInt ∧ j.toInt ≤ 20
  · rw [h1.1 c, h2.1 c]
  · rw [h1.2 c, h2.2 c]
theorem bd_nf {n : Nat} {W : wd9} {ov sg : Nat → Bool} {A : rn_L} (h : bdz n W ov A sg) {x : Nat} (hx : x ∈ nmz W) : ∃ p, p ∈ A.flatten ∧ p.1 = x := by
  obtain ⟨-, ⟨L, hL, eA⟩, -⟩ := h
  refine ⟨trz ov (x, 1), ?_, rfl⟩
  rw [eA, pj_fl]
  exact pj_mem.mpr ⟨(x, 1), (hL.2.2 _).mpr (Or.inr ⟨by omega, hx⟩), by show (1 : Nat) ≠ 2; decide, rfl⟩
theorem bd_sg {n : Nat} {W : wd9} {ov sg sg' : Nat → Bool} {A : rn_L} (h : bdz n W ov A sg) (e : ∀ p, p ∈ A.flatten → sg' p.1 = sg p.1) : bdz n W ov A sg' := ⟨h.1, h.2.1, fun x hx => by
  obtain ⟨p, h1, h2⟩ := bd_nf h hx
  have h3 := e p h1
  rw [h2] at h3
  rw [h3]
  exact h.2.2 x hx⟩
def gdT (z : ow_MS) (A : rn_L) (sg : Nat → Bool) : Prop := ∀ n W ov, 1 ≤ n → bdz n W ov A sg → twA z (Fz n W ov)
/-- the reference's last table -/
def twR (z : ow_MS) : Prop := ∀ T1, rc_At z 45 0 T1 → T1 = [] ∨ ∃ A sg, (∀ p : Nat × Nat, p ∈ A.flatten → p.2 < 2) ∧ T1 = tk sg A ∧ gdT z A sg
theorem gdT_fr {P : Nat → Prop} {z z1 : ow_MS} {A : rn_L} {sg : Nat → Bool} (hf : fr P z z1) (hP : ¬ P 44) (h : gdT z A sg) : gdT z1 A sg := fun n W ov hn hb => twA_fr hf hP (h n W ov hn hb)
theorem twR_fr {P : Nat → Prop} {z z1 : ow_MS} (hf : fr P z z1) (h1 : ¬ P 44) (h2 : ¬ P 45) (h : twR z) : twR z1 := by
  intro T1 hT
  have hT' : rc_At z 45 0 T1 := by
    obtain ⟨a1, a2, a3, a4⟩ := hT
    rw [(hf 45 h2).2.1] at a3
    exact ⟨a1, a2, a3, fun k t hk => by rw [← (hf 45 h2).2.1]; exact a4 k t hk⟩
  rcases h T1 hT' with e | ⟨A, sg, q1, q2, q3⟩
  · exact Or.inl e
  · exact Or.inr ⟨A, sg, q1, q2, gdT_fr hf h1 q3⟩
section XTWO
variable {X : (Nat → Nat → Int32) → Prop} {z : ow_MS}
/-- what the reference's close and pack leave -/
def twF (w : Nat → Nat) (lp : Nat → Bool) (n l : Nat) (A : rn_L) (sg : Nat → Bool) : Prop := ∃ Rs m P, clQ w n l Rs ∧ Rs.length ≤ n ∧ (∀ s, s < n → s ∈ Rs.flatten) ∧ mk (rgS w lp l Rs) m P ∧ pkR (rgS w lp l Rs) (fun i => !lp i) m P = tk sg A ∧ ∀ p : Nat × Nat, p ∈ A.flatten → p.2 < 2
theorem xq_two {b n l : Nat} {w : Nat → Nat} {lp : Nat → Bool} {k j : Int32} (h : gI X z) (hb : b < 20) (hB : hBr z b n l) (hw : ltX 94 z b n l w lp) (hJ : twR z) (hW : cwR z) : Te (fun K => qe_X13_two K (nI b) k j z) (fun r => (twR r.2 ∧ cwR r.2) ∧ (rFl X z 2 r ∧ 10 < l ∨ l ≤ 10 ∧ r.2.1 1 = 0 ∧ ∃ A sg, twF w lp n l A sg ∧ ∀ nn W ov, 1 ≤ nn → bdz nn W ov A sg → twN9 (Fz nn W ov) k j r.1)) := by
  let Q : Int32 × ow_MS → Prop := fun r => (twR r.2 ∧ cwR r.2) ∧ (rFl X z 2 r ∧ 10 < l ∨ l ≤ 10 ∧ r.2.1 1 = 0 ∧ ∃ A sg, twF w lp n l A sg ∧ ∀ nn W ov, 1 ≤ nn → bdz nn W ov A sg → twN9 (Fz nn W ov) k j r.1)
  have h1 := gI_1 (c := 0) h
  have p1 := hB.1
  have p2 := hB.2.1
  have p3 := hB.2.2.1
  have c4 : ∀ {x1 : Int32} {y : ow_MS} {A : rn_L} {sg : Nat → Bool}, ¬ (-64 ≤ k.toInt ∧ k.toInt ≤ 64 ∧ -20 ≤ j.toInt ∧ j.toInt ≤ 20) → l ≤ 10 → y.1 1 = 0 → twR y ∧ cwR y → twF w lp n l A sg → Tt (fun K i => q_X13_two K i 4 x1 k j 0 y) Q := by
    intro x1 y A sg hno hl g1 g2 g3
    refine u_X13_two_4 ?_; unfold qm_X13_two_4
    exact w_some ⟨g2, Or.inr ⟨hl, g1, A, sg, g3, fun nn W ov _ _ => ⟨fun h9 => absurd h9 hno, fun _ => rfl⟩⟩⟩
  have c3 : ∀ {x1 : Int32} {y : ow_MS} {A : rn_L} {sg : Nat → Bool}, l ≤ 10 → y.1 1 = 0 → twR y ∧ cwR y → twF w lp n l A sg → gdT y A sg → Tt (fun K i => q_X13_two K i 3 x1 k j 0 y) Q := by
    intro x1 y A sg hl g1 g2 g3 g4
    have t1 : (k < (-64 : Int32)) ↔ k.toInt < -64 := Int32.lt_iff_toInt_lt
    have t2 : ((64 : Int32) < k) ↔ 64 < k.toInt := Int32.lt_iff_toInt_lt
    have t3 : (j < (-20 : Int32)) ↔ j.toInt < -20 := Int32.lt_iff_toInt_lt
    have t4 : (j ≤ (20 : Int32)) ↔ j.toInt ≤ 20 := Int32.le_iff_toInt_le
    refine u_X13_two_3 ?_; unfold qm_X13_two_3
    refine w_if (fun h2 => c4 (by have := t1.mp h2; omega) hl g1 g2 g3) (fun h2 => w_if (fun h3 => c4 (by have := t2.mp h3; omega) hl g1 g2 g3) (fun h3 => w_if (fun h4 => c4 (by have := t3.mp h4; omega) hl g1 g2 g3) (fun h4 => w_if (fun h5 => ?_) (fun h5 => c4 (by have h9 : ¬ (j.toInt ≤ 20) := fun h9 => h5 (t4.mpr h9); omega) hl g1 g2 g3))))
    have b1 : ¬ (k.toInt < -64) := fun h9 => h2 (t1.mpr h9)
    have b2 : ¬ (64 < k.toInt) := fun h9 => h3 (t2.mpr h9)
    have b3 : ¬ (j.toInt < -20) := fun h9 => h4 (t3.mpr h9)
    have b4 := t4.mp h5
    obtain ⟨a, ea⟩ : ∃ a : Nat, k.toInt = (a : Int) - 64 := ⟨(k.toInt + 64).toNat, by omega⟩
    obtain ⟨t, et⟩ : ∃ t : Nat, j.toInt = (t : Int) - 20 := ⟨(j.toInt + 20).toNat, by omega⟩
    have ek : k = iI ((a : Int) - 64) := by
      rw [← ea]
      exact (Int32.ofInt_toInt k).symm
    have ej : j = iI ((t : Int) - 20) := by
      rw [← et]
      exact (Int32.ofInt_toInt j).symm
    have e2 : (129 : Int32) * (j + 20) + k + 64 = nI (129 * t + a) := by
      rw [ek, ej]
      show (iI 129 * (iI ((t : Int) - 20) + iI 20) + iI ((a : Int) - 64)) + iI 64 = _
      rw [iI_add, iI_mul, iI_add, iI_add]
      exact iI_nI (by omega)
    rw [e2]
    refine w_rdJ ml44 rfl (by omega) rfl (w_some ⟨g2, Or.inr ⟨hl, g1, A, sg, g3, fun nn W ov hnn hbz => ⟨fun _ => ?_, fun h9 => absurd ⟨by omega, by omega, by omega, by omega⟩ h9⟩⟩⟩)
    show (y.2.2 44 (129 * t + a)).toInt32 = _
    rw [g4 nn W ov hnn hbz a t (by omega) (by omega), i64_i32, ea, et]
  refine e_X13_two ?_
  refine u_X13_two_0 ?_; unfold qm_X13_two_0
  refine w_wrF (w_hasBX h1.2.2.2.2.2.1 (fun h0 => ?_) (fun c n' l' hc hx hh => w_ifF (by decide) ?_))
  · have := h0 b hb rfl
    have e : (usF z 1 0).2.1 96 b = nI n := hB.2.2.2.1
    rw [e] at this
    exact absurd this (nI_ne0 (by omega) (by omega))
  · have ec : b = c := nI_inj9 (by omega) (by omega) hx
    subst ec
    have e5 : (usF z 1 0).2.1 95 b = nI l := hB.2.2.2.2.1
    have hJ1 : twR (usF z 1 0) := twR_fr (fr_F (P := fun g => g = 1) rfl) (by decide) (by decide) hJ
    have hW1 : cwR (usF z 1 0) := cwR_fr (fr_F (P := fun g => g = 1) rfl) (by decide) (by decide) hW
    refine w_rdI ml95 rfl (by omega) e5 (w_le (b := 10) (by omega) (by omega) (fun h12 => ?_) (fun h12 => w_mono (w_failX (k := 2) h1 fr_1) (fun r hr => ⟨⟨twR_fr hr.2.2 (by unfold rPs rSc; omega) (by unfold rPs rSc; omega) hJ, cwR_fr hr.2.2 (by unfold rPs rSc; omega) (by unfold rPs rSc; omega) hW⟩, Or.inl ⟨hr, h12⟩⟩)))
    have hB1 : hBr (usF z 1 0) b n l := hB
    refine w_cs0 (xr_close hb hB1 (w := w) (lp := lp) hw) ?_
    rintro z4 ⟨f4, Rs, k1, k2, k3, k4, k5⟩
    have hwn : ∀ i, i < l → w i + 1 < n := fun i hi => (hw i hi).1
    have ok := cl_ok (lp := lp) hwn k1 k3
    have okl := okF_len ok
    have hFr : wkF (rgS w lp l Rs).flatten := okF_wk (by omega) ok
    have hRl : (rgS w lp l Rs).length ≤ 5 := by
      unfold rgS
      rw [List.length_map]
      omega
    have hz1 : z4.1 1 = 0 := by
      rw [(f4 1 (by unfold frK; omega)).1]
      exact po_usF_at
    have hJ4 : twR z4 := twR_fr f4 (by unfold frK; omega) (by unfold frK; omega) hJ1
    have g4 : gI X z4 := gI_fr f4 (fun g hg => by unfold frK at hg; unfold per; omega) h1
    refine w_cs0 (tr_pack (h := 27) (o := 0) pn3 (by omega) ml27 (by omega) (by omega) (by omega) (by omega) hFr k4 k5) ?_
    rintro y2 ⟨m, P, hk, hr, f2, -, -, -⟩
    obtain ⟨A, sg, cc, eA, hok, l1, l2⟩ := pkR_ok (sg := fun i => !lp i) hFr hk
    rw [eA] at hr
    have g2 : gI X y2 := gI_fr f2 (fun g hg => by unfold frQ at hg; unfold per; omega) g4
    have hJ2 : twR y2 := twR_fr f2 (by unfold frQ; omega) (by unfold frQ; omega) hJ4
    have hW2 : cwR y2 := cwR_fr f2 (by unfold frQ; omega) (by unfold frQ; omega) (cwR_fr f4 (by unfold frK; omega) (by unfold frK; omega) hW1)
    have hy2 : y2.1 1 = 0 := by
      rw [(f2 1 (by unfold frQ; omega)).1]
      exact hz1
    have hFF : twF w lp n l A sg := ⟨Rs, m, P, k1, k2, k3, hk, eA, fun p hp => ((hok.2 p).mp hp).2⟩
    obtain ⟨_, ⟨T1, q1⟩, kC⟩ := g2.2.2.2.2.1
    have hTl := hr.1
    have hneA : A ≠ [] := fun e9 => by
      have h0 := k3 0 (by omega)
      rw [e9, List.length_nil] at l2
      unfold rgS at l2
      rw [List.length_map] at l2
      rw [List.eq_nil_of_length_eq_zero l2.symm] at h0
      cases h0
    refine w_cs1 (tr_same (o := 0) (p := 0) ml27 ml45 (by omega) (by omega) (by omega) (by omega) hr q1) (fun a y9 e9 => ?_)
    cases e9
    refine w_if (fun _ => ?_) (fun h8 => ?_)
    rotate_left
    · have eS : tk sg A = T1 := by
        by_cases q : tk sg A = T1
        · exact q
        · exact absurd (by rw [decide_eq_false q]; rfl) h8
      rcases hJ2 T1 q1 with q | ⟨A9, sg9, q2, q3, q4⟩
      · have := tk_pos (sg := sg) hneA
        rw [eS, q] at this
        exact absurd this (by decide)
      · obtain ⟨u1, u2⟩ := tk_inj A A9 (fun p hp => ((hok.2 p).mp hp).2) q2 (eS.trans q3)
        subst u1
        exact c3 h12 hy2 ⟨hJ2, hW2⟩ hFF (fun nn W ov hnn hbz => q4 nn W ov hnn (bd_sg hbz (fun p hp => (u2 p hp).symm)))
    have hFw : wkF A.flatten := okF_wk (by omega) hok
    have hAl := okF_len hok
    have lp2 : ∀ (dd i : Nat) (y1 y : ow_MS), i + dd = 32 → y1.2.1 27 = y2.2.1 27 → y1.1 1 = 0 → gdT y1 A sg → cwR y1 → fr (fun g => g = 45) y1 y → (∀ t, t < i → y.2.1 45 t = y1.2.1 27 (0 + t)) → Tt (fun K t => q_X13_two K t 2 (nI b) k j (nI i) y) Q := by
      intro dd
      induction dd with
      | zero =>
        intro i y1 y hi e12 e1 h44 h42 hf ht
        have hrow : rc_At y1 27 0 (tk sg A) := by
          obtain ⟨a1, a2, a3, a4⟩ := hr
          exact ⟨a1, a2, by rw [e12]; exact a3, fun k t hk => by rw [e12]; exact a4 k t hk⟩
        have hr45 : rc_At y 45 0 (tk sg A) := rc_cpy hrow (fun t h9 => ht t (by omega))
        have h44' : gdT y A sg := gdT_fr hf (by decide) h44
        refine u_X13_two_2 ?_; unfold qm_X13_two_2
        exact w_leT (a := 32) (by omega) (by omega) (c3 h12 (by rw [(hf 1 (by decide)).1]; exact e1) ⟨fun T9 hT9 => Or.inr ⟨A, sg, fun p hp => ((hok.2 p).mp hp).2, rc_uni hT9 hr45, h44'⟩, cwR_fr hf (by decide) (by decide) h42⟩ hFF h44')
      | succ dd ih =>
        intro i y1 y hi e12 e1 h44 h42 hf ht
        refine u_X13_two_2 ?_; unfold qm_X13_two_2
        rw [nI_1]
        refine w_leF (a := 32) (by omega) (by omega) (w_rdI ml27 rfl (by omega) rfl (w_wrI ml45 rfl (by omega) (ih (i + 1) y1 _ (by omega) e12 e1 h44 h42 (fr_I2 hf rfl) (fun t h9 => ?_))))
        by_cases hti : t = i
        · rw [hti, po_usI_at, (hf 27 (by decide)).2.1, Nat.zero_add]
        · exact rd_ne hti (ht t (by omega))
    have lp1 : ∀ (dd i : Nat) (y : ow_MS), i + dd = 5289 → fr (fun g => g = 44) y2 y → (∀ t, t < i → y.2.2 44 t = Int64.ofInt 0) → Tt (fun K t => q_X13_two K t 1 (nI b) k j (nI i) y) Q := by
      intro dd
      induction dd with
      | zero =>
        intro i y hi hf ht
        have hry : rc_At y 27 0 (tk sg A) := rc_fr hf (by decide) hr
        refine u_X13_two_1 ?_; unfold qm_X13_two_1
        refine w_leT (a := 5289) (by omega) (by omega) (w_rdN (i := 0) rfl (by omega) (w_cs0 (tr_unpack (o := 0) (pnL (i := 0) (by omega)) (by omega) ml27 (by omega) (by omega) (by omega) (by omega) (fun p hp => by have := (hok.2 p).mp hp; omega) hry) (fun z2 ⟨hA, hS, f5⟩ => w_okZ (Or.inr rfl) (w_wrF ?_))))
        have f3 : fr (fun g => g = 46) z2 (usF z2 46 1) := fr_F rfl
        have hA4 : rn_At (usF z2 46 1) (1000 * (0 + 4)) A [] := fr_At f3 (fun g hg => by omega) hA
        have hS4 : rn_sg (usF z2 46 1) (1000 * (0 + 4)) A.flatten sg := hS
        have hcw : twA (usF z2 46 1) (fun _ _ => 0) := twA_fr f3 (by decide) (twA_fr f5 (by omega) (fun a b ha hb => ht (129 * b + a) (by omega)))
        obtain ⟨hg, ho⟩ := ou_all hFw (by omega)
        have hsk : Te (fun K => qe_X13_skein K 0 1 0 0 (usF z2 46 1)) (fun z1 => fr (skE 44 0) (usF z2 46 1) z1 ∧ ∀ a : Nat × wd9 × (Nat → Bool), (1 ≤ a.1 ∧ bdz a.1 a.2.1 a.2.2 A sg) → (fr (skH 0) (usF z2 46 1) z1 ∧ twA z1 (fun p q => 0 + 1 * Fz a.1 a.2.1 a.2.2 (p - (((40 : Nat) : Int) - 40)) (q - ((0 : Nat) : Int))))) := te_all (tp_skeinH0 (e := 1) (H := 44) (Or.inr rfl) tp_leafT hok (by omega) (by omega) hA4 po_usF_at) (fun a ha => xr_skein2 ha.1 12 0 16 0 0 40 A sg 1 (fun _ _ => 0) a.2.1 a.2.2 (usF z2 46 1) (by omega) (by omega) (by omega) hFw (by omega) (by omega) hA4 hS4 hg ho (by omega) (by omega) (Or.inl rfl) po_usF_at hcw ha.2)
        refine w_cs0 hsk (fun z3 ⟨f6, c6⟩ => ?_)
        have f7 : fr (fun g => g = 44 ∨ g = 46 ∨ g = 41 ∨ 1000 ≤ g) y2 z3 := fr_tr (fr_mono (fun g hg => Or.inl hg) hf) (fr_tr (fr_mono (fun g hg => by omega) f5) (fr_tr (fr_mono (fun g hg => Or.inr (Or.inl hg)) f3) (fr_mono (fun g hg => by unfold skE at hg; omega) f6)))
        refine lp2 32 0 z3 z3 (by omega) (f7 27 (by omega)).2.1 (by rw [(f7 1 (by omega)).1]; exact hy2) (fun nn W ov hnn hbz => twA_cg (c6 (nn, W, ov) ⟨hnn, hbz⟩).2 (fun p q => ?_)) (cwR_fr f7 (by omega) (by omega) hW2) fr_rf (fun t ht => absurd ht (by omega))
        show 0 + 1 * Fz nn W ov (p - (((40 : Nat) : Int) - 40)) (q - ((0 : Nat) : Int)) = Fz nn W ov p q
        rw [show p - (((40 : Nat) : Int) - 40) = p by omega, show q - ((0 : Nat) : Int) = q by omega, Int.one_mul, Int.zero_add]
      | succ dd ih =>
        intro i y hi hf ht
        refine u_X13_two_1 ?_; unfold qm_X13_two_1
        rw [nI_1]
        refine w_leF (a := 5289) (by omega) (by omega) (w_wrJ ml44 rfl (by omega) (ih (i + 1) _ (by omega) (fr_J2 hf rfl) (fun t h9 => ?_)))
        by_cases hti : t = i
        · rw [hti, usJ_at]
          rfl
        · rw [usJ_ne hti]
          exact ht t (by omega)
    exact lp1 5289 0 y2 (by omega) fr_rf (fun t ht => absurd ht (by omega))
theorem xq_two0 {x k j : Int32} (h : gI X z) (hn : noB (z.2.1 96) x) (hJ : twR z) (hW : cwR z) : Te (fun K => qe_X13_two K x k j z) (fun r => (twR r.2 ∧ cwR r.2) ∧ rFl X z 1 r) := by
  have h1 := gI_1 (c := 0) h
  refine e_X13_two ?_
  refine u_X13_two_0 ?_; unfold qm_X13_two_0
  refine w_wrF (w_hasBX h1.2.2.2.2.2.1 (fun h0 => w_ifT rfl (w_mono (w_failX (k := 1) h1 fr_1) (fun r hr => ⟨⟨twR_fr hr.2.2 (by unfold rPs rSc; omega) (by unfold rPs rSc; omega) hJ, cwR_fr hr.2.2 (by unfold rPs rSc; omega) (by unfold rPs rSc; omega) hW⟩, hr⟩))) (fun c n' l' hc hx hh => ?_))
  have h9 := hn c hc hx
  have e : z.2.1 96 c = nI n' := hh.2.2.2.1
  have := hh.1
  have := hh.2.1
  rw [e] at h9
  exact absurd h9 (nI_ne0 (by omega) (by omega))
end XTWO
end
section
/-! 99zzzzzzzzzzzzzzzzya.xtwr -/
/-! two: what conway leaves of two's rows; the class's two, exactly -/
section XTWR1
variable {X : (Nat → Nat → Int32) → Prop} {z : ow_MS} {St : plT}
theorem xq_conT {d x : Int32} (h : gI X z) (hR : relR z St) (hS : okS St) (hJ : twR z) : Te (fun K => qe_X13_conway K d x z) (fun r => twR r.2) := by
  let Q : Int32 × ow_MS → Prop := fun r => twR r.2
  have h1 := gI_1 (c := 0) h
  have hR1 := relR_1 (c := 0) hR
  have f01 : fr rPs z (usF z 1 0) := fr_1
  refine e_X13_conway ?_
  refine u_X13_conway_0 ?_; unfold qm_X13_conway_0
  refine w_wrF (w_hasX hR1 (fun h0 => w_ifT rfl (w_mono (w_failX h1 fr_1) (fun r hr => twR_fr hr.2.2 (by unfold rPs rSc; omega) (by unfold rPs rSc; omega) hJ))) (fun e A sg he hx hs hv hne => w_ifF (by decide) ?_))
  subst hx
  have c4 : ∀ {x1 : Int32} {y : ow_MS}, twR y → Tt (fun K i => q_X13_conway K i 4 x1 x 0 y) Q := by
    intro x1 y g4
    refine u_X13_conway_4 ?_; unfold qm_X13_conway_4
    exact w_some g4
  have c3 : ∀ {x1 : Int32} {y : ow_MS}, twR y → Tt (fun K i => q_X13_conway K i 3 x1 x 0 y) Q := by
    intro x1 y g4
    refine u_X13_conway_3 ?_; unfold qm_X13_conway_3
    refine w_if (fun h0 => c4 g4) (fun h0 => ?_)
    obtain ⟨k, k31, rfl⟩ := nI_of h0
    exact w_lt (b := 40) k31 (by omega) (fun hk => w_rdJ ml42 rfl hk rfl (w_some g4)) (fun hk => c4 g4)
  obtain ⟨⟨T1, k1⟩, kC⟩ := h1.2.2.2.2.1
  have hTl := hv.1.1
  obtain ⟨-, -, c, hA⟩ := hS e A sg he hs
  have hJ1 : twR (usF z 1 0) := twR_fr f01 (by unfold rPs rSc; omega) (by unfold rPs rSc; omega) hJ
  rw [show (32 : Int32) * nI e = nI (32 * e) from pk_mul 32 e]
  refine w_cs1 (tr_same (o := 32 * e) (p := 0) ml12 ml43 (by omega) (by omega) (by omega) (by omega) hv.1 k1) (fun a y e9 => ?_)
  cases e9
  refine w_if (fun _ => ?_) (fun h8 => c3 hJ1)
  have lp2 : ∀ (dd i : Nat) (y : ow_MS), i + dd = 32 → twR y → Tt (fun K t => q_X13_conway K t 2 (nI e) x (nI i) y) Q := by
    intro dd
    induction dd with
    | zero =>
      intro i y hi g4
      refine u_X13_conway_2 ?_; unfold qm_X13_conway_2
      exact w_leT (a := 32) (by omega) (by omega) (c3 g4)
    | succ dd ih =>
      intro i y hi g4
      refine u_X13_conway_2 ?_; unfold qm_X13_conway_2
      rw [show (32 : Int32) * nI e = nI (32 * e) from pk_mul 32 e, nI_add, nI_1]
      exact w_leF (a := 32) (by omega) (by omega) (w_rdI ml12 rfl (by omega) rfl (w_wrI ml43 rfl (by omega) (ih (i + 1) _ (by omega) (twR_fr (P := fun g => g = 43) (fr_I rfl) (by decide) (by decide) g4))))
  have lp1 : ∀ (dd i : Nat) (y : ow_MS), i + dd = 40 → fr (fun g => g = 42) (usF z 1 0) y → Tt (fun K t => q_X13_conway K t 1 (nI e) x (nI i) y) Q := by
    intro dd
    induction dd with
    | zero =>
      intro i y hi hf
      have hv9 : vRow y 12 (32 * e) A sg := vRow_fr9 hf (by decide) hv
      refine u_X13_conway_1 ?_; unfold qm_X13_conway_1
      refine w_leT (a := 40) (by omega) (by omega) (w_rdN (i := 0) rfl (by omega) (w_cs0 (to_open (pnL (i := 0) (by omega)) he hv9) (fun z2 ⟨o2, f2⟩ => w_okZ (Or.inl rfl) (w_wrF ?_))))
      have f3 : fr (fun g => g = 46) z2 (usF z2 46 0) := fr_F rfl
      have hA4 : rn_At (usF z2 46 0) (1000 * (0 + 4)) A [] := o2.1.1
      refine w_cs0 (tp_skeinH0 (e := 0) (H := 42) (Or.inl rfl) tp_leafC hA.1 hA.2.2.2.1 hA.2.2.2.2 hA4 po_usF_at) (fun z3 f4 => ?_)
      have f5 : fr (fun g => g = 42 ∨ g = 46 ∨ g = 41 ∨ 1000 ≤ g) (usF z 1 0) z3 := fr_tr (fr_mono (fun g hg => Or.inl hg) hf) (fr_tr (fr_mono (fun g hg => by omega) f2) (fr_tr (fr_mono (fun g hg => Or.inr (Or.inl hg)) f3) (fr_mono (fun g hg => by unfold skE at hg; omega) f4)))
      exact lp2 32 0 z3 (by omega) (twR_fr f5 (by omega) (by omega) hJ1)
    | succ dd ih =>
      intro i y hi hf
      refine u_X13_conway_1 ?_; unfold qm_X13_conway_1
      rw [nI_1]
      exact w_leF (a := 40) (by omega) (by omega) (w_wrJ ml42 rfl (by omega) (ih (i + 1) _ (by omega) (fr_J2 hf rfl)))
  exact lp1 40 0 (usF z 1 0) (by omega) fr_rf
end XTWR1
def gdK (y : ow_MS) (A : rn_L) (sg : Nat → Bool) : Prop := ∀ n W ov, 1 ≤ n → bdz n W ov A sg → twC y (Fz n W ov)
/-- the class's last table -/
def twK (y : ow_MS) : Prop := ∃ C, slC y 25000 0 C ∧ cOK C ∧ (C.2 = [] ∨ ∃ A sg c, C = clC sg A ∧ okL A c ∧ gdK y A sg)
theorem gdK_fr {P : Nat → Prop} {y y1 : ow_MS} {A : rn_L} {sg : Nat → Bool} (hf : fr P y y1) (hP : ¬ P 24004) (h : gdK y A sg) : gdK y1 A sg := fun n W ov hn hb => twC_fr hf hP (h n W ov hn hb)
theorem twK_fr {P : Nat → Prop} {y y1 : ow_MS} (hf : fr P y y1) (hP : ∀ g, P g → ¬ (g = 24004 ∨ 25001 ≤ g ∧ g ≤ 25003)) (h : twK y) : twK y1 := by
  obtain ⟨C, c1, c2, c3⟩ := h
  exact ⟨C, slC_fr hf (fun q hq h9 => hP q h9 (by unfold cW at hq; omega)) c1, c2, c3.imp id (fun ⟨A, sg, c, q1, q2, q3⟩ => ⟨A, sg, c, q1, q2, gdK_fr hf (fun h9 => hP _ h9 (by omega)) q3⟩)⟩
section XTWR2
variable {vl : Nat → Nat} {y : ow_MS} {St : plT} {x x' : Int32}
theorem xc_unfT {g' p' s' c : Nat} {A : rn_L} {sg : Nat → Bool} (hg' : tH g' p') (hd : g' + 6 ≤ 24000) (hs' : s' < p') (hb : slC y g' s' (clC sg A)) (hA : okL A c) (hby : byR y (g' + 1)) (hl : lvS y) (hbn : bnC y) (hK : twK y) : Te (fun K => ce_X8_unfoldCode vl K 24000 g' (nI s') y) (fun y1 => slC y1 25000 0 (clC sg A) ∧ gdK y1 A sg) := by
  obtain ⟨C, c1, c2, c3⟩ := hK
  refine e_X8_unfoldCode ?_; unfold cm_X8_unfoldCode_0
  refine w_cs1 (tc_isKnown2 (s := 0) (by omega) hg' (by omega) hs' hb (okL_c hA).2 hby c1 c2) ?_
  rintro v y1 ⟨h1, -, -, f1⟩
  dsimp only at h1 f1
  rcases h1 with ⟨rfl, rfl, eC, hlen⟩ | ⟨rfl, h1⟩
  · refine w_ifF (by decide) (w_some ⟨by rw [← eC]; exact c1, ?_⟩)
    rcases c3 with e | ⟨A', sg', c', q1, q2, q3⟩
    · rw [e] at hlen
      exact absurd hlen (by decide)
    · obtain ⟨u1, u2, u3⟩ := clC_inj hA q2 (eC.symm.trans q1)
      subst u1
      exact fun n W ov hn hbz => q3 n W ov hn (bd_sg hbz (fun p hp => (u3 p.1 ((hA.1.2 p).mp hp).1).symm))
  · have f1s : fr skP y y1 := fr_mono (fun g hg => by unfold cW at hg; unfold skP; omega) f1
    have l1 : lvS y1 := fun j hj => by
      obtain ⟨T, t1, t2⟩ := hl j hj
      exact ⟨T, cAt_fr f1 (fun g hg h9 => by unfold cP lv at hg; unfold cW at h9; omega) t1, t2⟩
    refine w_ifT rfl (w_cs0 (tc_fillA ch_24003 (by omega)) ?_)
    rintro y2 ⟨-, f2⟩
    refine w_cs0 (tc_fillA ch_24004 (by omega)) ?_
    rintro y3 ⟨z3, f3⟩
    have hc3 : twC y3 (fun _ _ => 0) := fun a b ha hb => z3 (a * 41 + b) (by omega)
    have f13a : fr (fun g => g = 24003 ∨ g = 24004) y1 y3 := fr_tr (fr_mono (fun g hg => by omega) f2) (fr_mono (fun g hg => by omega) f3)
    have l3 : lvS y3 := fun j hj => by
      obtain ⟨T, t1, t2⟩ := l1 j hj
      exact ⟨T, cAt_fr f13a (fun g hg h9 => by unfold cP lv at hg; omega) t1, t2⟩
    obtain ⟨T, t1, t2⟩ := l3 0 (by omega)
    have s3 : slC y3 g' s' (clC sg A) := slC_fr (fr_tr f1s (fr_mono (fun g hg => by unfold skP; omega) f13a)) (fun q hq h9 => by unfold cW at hq; unfold skP at h9; omega) hb
    have b3 : bnC y3 := bnC_fr (fr_tr f1s (fr_mono (fun g hg => by unfold skP; omega) f13a)) (fun m hm h9 => by unfold skP at h9; omega) hbn
    refine w_crX (j := 0) rfl (by omega) (w_cs0 (tc_load3 (lv_nH (L := 0) (by omega)) hg' (Or.inr (by omega)) hs' hA s3 t1 t2) ?_)
    rintro y4 ⟨⟨T1, q1, q2, q3, q4⟩, f4⟩
    have n4 := q1.2.2.1
    have l4 : lvS y4 := lvS_fr (L := 0) f4 (fun g hg => Or.inl (cL_in hg)) ⟨T1, q1.1, n4.2.2.1⟩ l3
    have b4 : bnC y4 := bnC_fr f4 (fun m hm h9 => by have := cL_in h9; unfold lv at this; omega) b3
    have hpm : pm1 T1 := fun x hx => by
      rw [q4 x (by omega)]
      cases sg x
      · exact Or.inl rfl
      · exact Or.inr rfl
    have nv4 : nvL 0 T1 := ⟨n4.1, n4.2.1, n4.2.2.1, by have := n4.2.2.2; omega⟩
    have hun : Te (fun K => ce_X8_unfold vl K 24000 0 1 0 0 y4) (fun z1 => (lvS z1 ∧ fr (unP 0) y4 z1) ∧ ∀ a : Nat × wd9 × (Nat → Bool), (1 ≤ a.1 ∧ bdz a.1 a.2.1 a.2.2 A sg) → ((lvS z1 ∧ fr (unP 0) y4 z1) ∧ twC z1 (fun p q => 0 + 1 * Fz a.1 a.2.1 a.2.2 (p - 0) (q - ((0 : Nat) : Int))))) := te_all (tc_unfold l4 q1.1 nv4) (fun a ha => xc_unfD2 ha.1 12 0 rfl T1 A sg a.2.2 a.2.1 (fun x => x) 1 (fun _ _ => 0) 0 y4 l4 b4 q1.1 nv4 (by have := n4.2.1; omega) (isoV_of q1.2.1 n4.1) hpm (by have := hA.2.2.2.2; omega) ha.2 (twC_fr f4 (fun h9 => by have := cL_in h9; unfold lv at this; omega) hc3) (by decide) (by decide))
    refine w_cs0 hun ?_
    rintro y5 ⟨⟨l5, f5⟩, c5⟩
    have f15 : fr (fun g => 24003 ≤ g ∧ g ≤ 24004 ∨ 26001 ≤ g ∧ g ≤ 38011) y1 y5 := fr_tr (fr_mono (fun g hg => by omega) f13a) (fr_tr (fr_mono (fun g hg => by have := cL_in hg; unfold lv at this; omega) f4) (fr_mono (fun g hg => by unfold unP at hg; omega) f5))
    refine w_some ⟨slC_fr f15 (fun q hq h9 => by unfold cW at hq; omega) h1, fun n W ov hn hbz => twC_cg (c5 (n, W, ov) ⟨hn, hbz⟩).2 (fun p q => ?_)⟩
    show 0 + 1 * Fz n W ov (p - 0) (q - ((0 : Nat) : Int)) = Fz n W ov p q
    rw [show p - 0 = p by omega, show q - ((0 : Nat) : Int) = q by omega, Int.one_mul, Int.zero_add]
theorem xc_conT (hM : gM y) (hC : relC y St) (hS : okS St) (hbn : bnC y) (hK : twK y) : Te (fun K => ce_X11_conway vl K 0 x x' y) (fun r => twK r.2.2) := by
  refine e_X11_conway ?_; unfold cm_X11_conway_0
  refine w_tc0 (xc_need hM.1.1 hC hS) ?_ ?_
  · rintro y1 ⟨h1, rfl⟩
    rcases h1 with h1 | ⟨-, d, A, sg, c, hd, rfl, hSt, hs, hA, hne, hpl⟩
    · exact absurd (show (0 : Nat) = 1 from h1.1) (by decide)
    · refine w_cs0 (xc_unfT ch_1000 (by omega) hd hs hA hM.1.1.1 (lvS_ns hM.1.2.1) hbn hK) ?_
      rintro y2 ⟨k2, k3⟩
      refine w_cs1 tc_conwayAt ?_
      rintro v z ⟨e2, a1, a2⟩
      dsimp only at e2 a1 a2
      rw [e2]
      exact w_some ⟨_, k2, (okL_c hA).2, Or.inr ⟨A, sg, c, rfl, hA, k3⟩⟩
  · rintro a y1 ha ⟨h1, rfl⟩
    exact w_some hK
theorem xc_twoAt : Te (fun K => ce_X8_twoAt vl K 24000 x x' y) (fun r => r.2 = y ∧ ∀ F, twC y F → twN9 F x x' r.1) := by
  have e1 : ∀ u : Int32, u.toInt64 = Int64.ofInt u.toInt := fun u => by
    have := Int32.toInt64_ofInt (n := u.toInt) (Int32.minValue_le_toInt u) (Int32.toInt_le u)
    rw [Int32.ofInt_toInt] at this
    exact this
  have bd : ∀ u : Int32, (-2147483648 : Int) ≤ u.toInt ∧ u.toInt ≤ (2147483647 : Int) := fun u => ⟨Int32.minValue_le_toInt u, Int32.toInt_le u⟩
  have b1 := bd x
  have b2 := bd x'
  refine e_X8_twoAt ?_; unfold cm_X8_twoAt_0
  rw [e1 x, e1 x']
  refine w_cs1 (xc_tIx (by omega) (by omega) (by omega) (by omega)) ?_
  rintro v z ⟨e2, h2⟩
  dsimp only at h2 e2
  rw [e2]
  rcases h2 with ⟨a, b, ha, hb, ea, eb, rfl⟩ | ⟨rfl, hno⟩
  · refine w_ifF (rn_neg1 (by omega)) (w_crI ch_24004 rfl (show a * 41 + b < 5289 by omega) rfl (w_some ⟨rfl, fun F hF => ⟨fun _ => ?_, fun h9 => absurd ⟨by omega, by omega, by omega, by omega⟩ h9⟩⟩))
    show y.2.1 24004 (a * 41 + b) = _
    rw [hF a b ha hb, ea, eb]
  · exact w_ifT rfl (w_some ⟨rfl, fun F hF => ⟨fun h9 => absurd h9 hno, fun _ => rfl⟩⟩)
theorem xc_two0 (hB : brC y) (hn : noB (y.2.1 15) x) {i j : Int32} : Te (fun K => ce_X11_two vl K 0 x i j y) (fun r => r.1 = 1 ∧ r.2.2 = y) := by
  refine e_X11_two ?_; unfold cm_X11_two_0
  refine w_tc0 (tc_needBraid (brC_E hB)) ?_ ?_
  · rintro y1 ⟨h1, rfl⟩
    rcases h1 with ⟨-, hb⟩ | h1
    · exfalso
      obtain ⟨b, n, l, hb20, e, hn2, hn5, e15, l16, e14, hw⟩ := isB_w hB hb
      have h9 := hn b hb20 e
      rw [e15] at h9
      exact absurd h9 (nI_ne0 (by omega) (by omega))
    · exact absurd (show (0 : Nat) = 1 from h1.1) (by decide)
  · rintro a y1 ha ⟨h1, rfl⟩
    rcases h1 with h1 | h1
    · exact absurd h1.1 ha
    · exact w_some ⟨h1.1, rfl⟩
theorem xc_two {b n l : Nat} {w : Nat → Nat} {lp : Nat → Bool} {A : rn_L} {sg : Nat → Bool} (hM : gM y) (hB : brC y) (hk : knC y) (hb : b < 20) (hn2 : 2 ≤ n) (hn5 : n ≤ 5) (h15 : y.2.1 15 b = nI n) (hl : l ≤ 16) (h14 : y.2.1 14 b = nI l) (hw : ltX 13 y b n l w lp) (hbn : bnC y) (hK : twK y) (hW : cwK y) (hF : l ≤ 10 → twF w lp n l A sg) : Te (fun K => ce_X11_two vl K 0 (nI b) x x' y) (fun r => (twK r.2.2 ∧ cwK r.2.2) ∧ (r.1 = 4 ∧ r.2.2 = y ∧ 10 < l ∨ l ≤ 10 ∧ r.1 = 0 ∧ ∃ W ov, bdz n W ov A sg ∧ twN9 (Fz n W ov) x x' r.2.1)) := by
  have hwn : ∀ i, i < l → w i + 1 < n := fun i hi => (hw i hi).1
  refine e_X11_two ?_; unfold cm_X11_two_0
  refine w_tc0 (tc_needBraid (brC_E hB)) ?_ ?_
  · rintro y1 ⟨h1, rfl⟩
    refine w_crI ch_14 rfl hb h14 (w_le (b := 10) (by omega) (by omega) (fun h12 => ?_) (fun h12 => w_some ⟨⟨hK, hW⟩, Or.inl ⟨rfl, rfl, h12⟩⟩))
    obtain ⟨T, t1, t2⟩ := hM.1.2.1 4000 nH4
    refine w_crI ch_14 rfl hb h14 (w_crI ch_15 rfl hb h15 ?_)
    rw [m16]
    refine w_cs0 (xc_close t1 t2 hb hn2 hn5 (by omega) hw) ?_
    rintro y3 ⟨⟨T1, g1, g2, g3, g4, g5, g6⟩, f3⟩
    have hN3 : gN y3 := gN_net nH4 f3 (fun g hg => by unfold clR cP at hg; omega) ⟨T1, g1, g2.2.2.1⟩ hM.1
    have f3u : fr uP y1 y3 := fr_mono (fun g hg => by unfold clR cP at hg; unfold uP; omega) f3
    have hk7 : kH 7000 := Or.inl rfl
    have hb7 := hN3.2.2 7000 hk7
    refine w_cs0 (tc_encode hk7 nH4 g1 g2 hb7.1 hb7.2.1 hb7.2.2) ?_
    rintro y4 ⟨⟨Cs, os, z1, z2, z3⟩, b1, b2, b3, hy4, f4⟩
    have f4u : fr uP y3 y4 := fr_mono (fun g hg => by
      unfold enP cpP epP cV cQ at hg
      unfold uP
      omega) f4
    have f14 : fr uP y1 y4 := fr_tr f3u f4u
    have hl4 : lvS y4 := fun j hj => by
      obtain ⟨T, t1, t2⟩ := lvS_ns hM.1.2.1 j hj
      exact ⟨T, cAt_fr f14 (fun g hg h9 => by unfold cP lv at hg; unfold uP at h9; omega) t1, t2⟩
    subst g3
    obtain ⟨Rs, m, P, k1, k2, k3, k4, k5, k6⟩ := hF h12
    have hiso := cl_iso (by omega) g2.1 hwn g5 g4 g6 k1 k3
    obtain ⟨m1, m2⟩ := cl_pl (by omega) g2.1 hwn g5 g4
    obtain ⟨A', sg', p1, p2, p3, p4, f', p5⟩ := enc_iso (isoS_iff.mp hiso.1) (by unfold rgS; rw [List.length_map]; omega) g2 k4 z1
    obtain ⟨u1, u2⟩ := tk_inj A A' k6 (okL_u p2) (k5.symm.trans p1)
    subst u1
    have hnr : nrm A sg' := ⟨T1, f', Cs, os, g2, m1, p5, z1, p3⟩
    rw [p3] at z2
    have k4' : knC y4 := knC_fr f14 (fun g hg => by unfold uP at hg; omega) hk
    have bn4 : bnC y4 := bnC_fr f14 (fun m hm h9 => by unfold uP at h9; omega) hbn
    have tw4 : twK y4 := twK_fr f14 (fun g hg h9 => by unfold uP at hg; omega) hK
    have cw4 : cwK y4 := cwK_fr f14 (fun g hg h9 => by unfold uP at hg; omega) hW
    refine w_cs0 (te_and (xc_unfoldCode (s' := 0) (kH_out hk7) (by omega) Nat.one_pos z2 p2 b1 hnr hl4 cw4) (xc_unfT (s' := 0) (kH_out hk7) (by omega) Nat.one_pos z2 p2 b1 hl4 bn4 tw4)) ?_
    rintro y5 ⟨⟨s1, s2⟩, s3, s4⟩
    refine w_cs1 xc_twoAt ?_
    rintro v z ⟨e2, h2⟩
    dsimp only at e2 h2
    rw [e2]
    obtain ⟨W, hbz⟩ := bd_cl p5 hiso hwn k1 k3
    exact w_some ⟨⟨⟨_, s3, (okL_c p2).2, Or.inr ⟨A, sg', _, rfl, p2, s4⟩⟩, ⟨_, s1, (okL_c p2).2, Or.inr ⟨A, sg', _, rfl, p2, s2⟩⟩⟩, Or.inr ⟨h12, rfl, W, _, bd_sg hbz u2, h2 _ (s4 n W _ (by omega) hbz)⟩⟩
  · rintro a y1 ha ⟨h1, rfl⟩
    rcases h1 with h1 | h1
    · exact absurd h1.1 ha
    · have := h1.2 b hb rfl
      rw [h15] at this
      exact absurd this (nI_ne0 (by omega) (by omega))
end XTWR2
end
section
/-! 99zzzzzzzzzzzzzzzzyb.xtws -/
/-! two is a step of the law; what is left of the whole: five cases -/
def twQ (g : Nat) : Prop := 4001 ≤ g ∧ g ≤ 5011 ∨ 7004 ≤ g ∧ g ≤ 10005 ∨ skP g
section XTWS
variable {vl : Nat → Nat} {y : ow_MS}
theorem tc_twoF {x x1 x2 : Int32} (hM : gM y) (hB : brC y) (hk : knC y) : Te (fun K => ce_X11_two vl K 0 x x1 x2 y) (fun r => (∀ D, cOK D → slC y 25000 1 D → slC r.2.2 25000 1 D) ∧ fr twQ y r.2.2) := by
  refine e_X11_two ?_; unfold cm_X11_two_0
  refine w_tc0 (tc_needBraid (brC_E hB)) ?_ ?_
  · rintro y1 ⟨h1, rfl⟩
    rcases h1 with ⟨-, hb⟩ | h1
    · obtain ⟨b, n, l, hb20, rfl, hn2, hn5, e15, l16, e14, hw⟩ := isB_w hB hb
      refine w_crI ch_14 rfl hb20 e14 (w_le (b := 10) (by omega) (by omega) (fun h12 => ?_) (fun _ => w_some ⟨fun D _ hs => hs, fr_rf⟩))
      obtain ⟨T, t1, t2⟩ := hM.1.2.1 4000 nH4
      refine w_crI ch_14 rfl hb20 e14 (w_crI ch_15 rfl hb20 e15 ?_)
      rw [m16]
      refine w_cs0 (tc_close t1 t2 hb20 hn2 hn5 (by omega) hw) ?_
      rintro y3 ⟨⟨T1, g1, g2⟩, f3⟩
      have hN3 : gN y3 := gN_net nH4 f3 (fun g hg => by unfold clR cP at hg; omega) ⟨T1, g1, g2.2.2.1⟩ hM.1
      have hk7 : kH 7000 := Or.inl rfl
      have hb7 := hN3.2.2 7000 hk7
      refine w_cs0 (tc_encode hk7 nH4 g1 g2 hb7.1 hb7.2.1 hb7.2.2) ?_
      rintro y4 ⟨⟨Cs, os, z1, z2, z3⟩, b1, b2, b3, hy4, f4⟩
      obtain ⟨A', sg', q1, q2, -⟩ := enc_ok g2 z1
      have f14 : fr (fun g => 4001 ≤ g ∧ g ≤ 5011 ∨ 7004 ≤ g ∧ g ≤ 10005) y1 y4 := fr_tr (fr_mono (fun g hg => by unfold clR cP at hg; omega) f3) (fr_mono (fun g hg => by
        unfold enP cpP epP cV cQ at hg
        omega) f4)
      have hl4 : lvS y4 := fun j hj => by
        obtain ⟨T, t1, t2⟩ := lvS_ns hM.1.2.1 j hj
        exact ⟨T, cAt_fr f14 (fun g hg h9 => by unfold cP lv at hg; omega) t1, t2⟩
      have k4 : knC y4 := knC_fr f14 (fun g hg => by omega) hk
      rw [q2] at z2
      refine w_cs0 (te_and (tc_unfoldCode (s' := 0) (kH_out hk7) (by omega) Nat.one_pos z2 q1 b1 k4 hl4) (tc_unfK (s' := 0) (kH_out hk7) (by omega) Nat.one_pos z2 q1 b1 k4 hl4)) ?_
      rintro y5 ⟨⟨k5, l5, f5⟩, s5⟩
      refine w_cs1 tc_twoAt ?_
      rintro v z e2
      dsimp only at e2
      rw [e2]
      exact w_some ⟨fun D hD hs => s5 D hD (slC_fr f14 (fun q hq h9 => by unfold cW at hq; omega) hs), fr_tr (fr_mono (fun g hg => by unfold twQ; omega) f14) (fr_mono (fun g hg => Or.inr (Or.inr hg)) f5)⟩
    · exact absurd (show (0 : Nat) = 1 from h1.1) (by decide)
  · rintro a y1 ha ⟨h1, rfl⟩
    exact w_some ⟨fun D _ hs => hs, fr_rf⟩
/-- what the class keeps besides -/
theorem CI_tw {y1 : ow_MS} (hf : fr twQ y y1) (h1 : knC y1) (h2 : ∀ D, cOK D → slC y 25000 1 D → slC y1 25000 1 D) (h : CI vl y) : CI vl y1 := by
  obtain ⟨-, ⟨C, c1, c2, c3⟩, i3, i4, i5, i6, i7, i8⟩ := h
  have no : ∀ g, 24005 ≤ g ∧ g ≤ 25000 ∨ 38012 ≤ g → ¬ twQ g := fun g hg h9 => by unfold twQ skP at h9; omega
  refine ⟨h1, ⟨C, h2 C c2 c1, c2, c3.imp id (fun ⟨A, sg, c, q1, S, G, q2, q3, q4, q5⟩ => ⟨A, sg, c, q1, S, G, q2, (hf 40008 (no _ (by omega))).1.trans q3, (hf 24009 (no _ (by omega))).1.trans q4, fun k hk => by rw [(hf 24006 (no _ (by omega))).2.1]; exact q5 k hk⟩)⟩, bnC_fr hf (fun m hm => no _ (by omega)) i3, mpC_fr hf ⟨no _ (by omega), no _ (by omega), no _ (by omega)⟩ i4, ?_, fun m hm => ?_, fun i k hi hk => ?_, i8⟩
  · obtain ⟨k, k1, k2, k3⟩ := i5
    refine ⟨k, k1, by rw [(hf 41010 (no _ (by omega))).1]; exact k2, fun s hs => ?_⟩
    rw [(hf 41012 (no _ (by omega))).2.1, (hf 41013 (no _ (by omega))).2.1, (hf 41014 (no _ (by omega))).2.1]
    exact k3 s hs
  · rw [(hf 43005 (no _ (by omega))).2.1]
    exact i6 m hm
  · rw [(hf (45001 + i) (no _ (by omega))).2.1]
    exact i7 i k hi hk
variable {X : (Nat → Nat → Int32) → Prop} {z : ow_MS} {x i j : Int32}
theorem c_two (h : rel3 X z y) (hk : knC y) (hbn : bnC y) (hz : cwR z ∧ twR z) (hy : cwK y ∧ twK y) : Te (fun K => qe_X13_two K x i j z) (fun rr => Te (fun K => ce_X11_two vl K 0 x i j y) (fun rc => (rel3 X rr.2 rc.2.2 ∧ ansI [(1, 1), (2, 4)] rr rc) ∧ (twR rr.2 ∧ cwR rr.2) ∧ (twK rc.2.2 ∧ cwK rc.2.2) ∧ knC rc.2.2 ∧ (∀ D, cOK D → slC y 25000 1 D → slC rc.2.2 25000 1 D) ∧ fr twQ y rc.2.2)) := by
  obtain ⟨⟨St, k⟩, hM, h2⟩ := id h
  have hR : Te (fun K => qe_X13_two K x i j z) (fun rr => gI X rr.2 ∧ fr (pf [1, 2, 3, 4, 5, 6, 7, 8, 9, 27, 41, 42, 44, 45, 46, 120] []) z rr.2) := te_fo (tp_two (b := x) (k := i) (j := j) k.1) (fun K => ff_X13_two)
  have hC : Te (fun K => ce_X11_two vl K 0 x i j y) (fun rc => (gM rc.2.2 ∧ brC rc.2.2 ∧ knC rc.2.2 ∧ fr twP y rc.2.2) ∧ (∀ D, cOK D → slC y 25000 1 D → slC rc.2.2 25000 1 D) ∧ fr twQ y rc.2.2) := te_and (tc_two (x := x) (x1 := i) (x2 := j) hM h2.2.2.1 hk) (tc_twoF hM h2.2.2.1 hk)
  have fin : ∀ (rr : Int32 × ow_MS) (rc : Nat × Int32 × ow_MS), gI X rr.2 ∧ fr (pf [1, 2, 3, 4, 5, 6, 7, 8, 9, 27, 41, 42, 44, 45, 46, 120] []) z rr.2 → ((gM rc.2.2 ∧ brC rc.2.2 ∧ knC rc.2.2 ∧ fr twP y rc.2.2) ∧ (∀ D, cOK D → slC y 25000 1 D → slC rc.2.2 25000 1 D) ∧ fr twQ y rc.2.2) → (twR rr.2 ∧ cwR rr.2) → (twK rc.2.2 ∧ cwK rc.2.2) → ansI [(1, 1), (2, 4)] rr rc → ((rel3 X rr.2 rc.2.2 ∧ ansI [(1, 1), (2, 4)] rr rc) ∧ (twR rr.2 ∧ cwR rr.2) ∧ (twK rc.2.2 ∧ cwK rc.2.2) ∧ knC rc.2.2 ∧ (∀ D, cOK D → slC y 25000 1 D → slC rc.2.2 25000 1 D) ∧ fr twQ y rc.2.2) := fun rr rc ⟨hgI, fR⟩ ⟨⟨hG, hB9, hk2, _⟩, hs1, hf⟩ h1 h3 ha => by
    have no : ∀ g, g ≤ 4000 ∨ 5012 ≤ g ∧ g ≤ 7003 ∨ 10006 ≤ g ∧ g ≤ 24002 → ¬ twQ g := fun g hg h9 => by unfold twQ skP at h9; omega
    have hC9 : relC rc.2.2 St := relC_fr hf (fun q hq => no q (by unfold cW at hq; omega)) k.2.2.2.1
    have h2' : rel2 rr.2 rc.2.2 := by
      obtain ⟨k1, k2, k3, ⟨Ns, q1, q2, q3⟩, Ms, q4, q5, q6⟩ := h2
      exact ⟨relT_k fR hf (by decide) ⟨no _ (by omega), no _ (by omega)⟩ k1, relB_k fR hf (by decide) ⟨no _ (by omega), no _ (by omega), no _ (by omega)⟩ k2, brC_fr hf ⟨no _ (by omega), no _ (by omega), no _ (by omega)⟩ k3, ⟨Ns, rlR_k fR (by decide) q1, rlC_k hf (fun q hq => no q (by unfold cV at hq; omega)) q2, q3⟩, Ms, rlR_k fR (by decide) q4, rlC_k hf (fun q hq => no q (by unfold cV at hq; omega)) q5, q6⟩
    exact ⟨⟨⟨⟨St, hgI, hG.1, relR_fr fR (by decide) k.2.2.1, hC9, k.2.2.2.2⟩, hG, h2'⟩, ha⟩, h1, h3, hk2, hs1, hf⟩
  rcases br_cs k.1 x with hn | ⟨b, n, l, hb20, rfl, hh⟩
  · refine te_two (te_and hR (xq_two0 (k := i) (j := j) k.1 hn hz.2 hz.1)) (te_and hC (xc_two0 (i := i) (j := j) h2.2.2.1 (noB_iff h2.2.1 hn))) (fun rr rc ⟨a1, a2, a3⟩ ⟨b1, b2, b3⟩ => fin rr rc a1 b1 a2 (by rw [b3]; exact ⟨hy.2, hy.1⟩) (Or.inr ⟨1, 1, by simp, a3.2.1, b2⟩))
  · obtain ⟨w, lp, w1, w2, w3, w4⟩ := ltX_of hh hb20 h2.2.1
    have p1 := hh.1
    have p2 := hh.2.1
    have p3 := hh.2.2.1
    refine w_monoE (te_and hR (xq_two (k := i) (j := j) k.1 hb20 hh w1 hz.2 hz.1)) (fun rr ⟨a1, a2, hr⟩ => ?_)
    rcases hr with ⟨r1, r2⟩ | ⟨r0, r1, A, sg, r2, r3⟩
    · refine w_monoE (te_and hC (xc_two (x := i) (x' := j) (A := []) (sg := fun _ => false) hM h2.2.2.1 hk hb20 p1 p2 w3 p3 w4 w2 hbn hy.2 hy.1 (fun h9 => absurd h9 (by omega)))) (fun rc ⟨b1, b2, hc⟩ => fin rr rc a1 b1 a2 b2 ?_)
      rcases hc with ⟨c1, -⟩ | ⟨c1, -⟩
      · exact Or.inr ⟨2, 4, by simp, r1.2.1, c1⟩
      · omega
    · refine w_monoE (te_and hC (xc_two (x := i) (x' := j) (A := A) (sg := sg) hM h2.2.2.1 hk hb20 p1 p2 w3 p3 w4 w2 hbn hy.2 hy.1 (fun _ => r2))) (fun rc ⟨b1, b2, hc⟩ => fin rr rc a1 b1 a2 b2 ?_)
      rcases hc with ⟨-, -, c3⟩ | ⟨-, c1, W, ov, c2, c3⟩
      · omega
      · exact Or.inl ⟨r1, c1, twN_uni (r3 n W ov (by omega) c2) c3⟩
end XTWS
section XTWS2
variable {Pc Pr : ow_MS → Prop}
theorem s3_two (hc : keepP ciX Pc) (hk : ∀ y, Pc y → cwK y ∧ twK y) (hp : ∀ y y1, fr twQ y y1 → cwK y1 → twK y1 → (∀ D, cOK D → slC y 25000 1 D → slC y1 25000 1 D) → Pc y → Pc y1) (hz : ∀ z, Pr z → cwR z ∧ twR z) (hq : ∀ z z1, fr (pf [1, 2, 3, 4, 5, 6, 7, 8, 9, 27, 41, 42, 44, 45, 46, 120] []) z z1 → cwR z1 → twR z1 → Pr z → Pr z1) : stpX Pc Pr lst_two := by
  intro S x1 x2 x3 x4 x5 h pc pr
  have hci := h.1.2.1
  have hc1 : Te (fun K => qe_X13_two K x1 x2 x3 S.2.2) (fun rr => Te (fun K => ce_X11_two S.1 K 0 x1 x2 x3 S.2.1) (fun rc => (REL (S.1, rc.2.2, rr.2) ∧ ansI [(1, 1), (2, 4)] rr rc) ∧ NM rc.2.2 ∧ Pc rc.2.2 ∧ Pr rr.2)) := w_monoE (te_fo (c_two (vl := S.1) (x := x1) (i := x2) (j := x3) h.1.1 hci.1 hci.2.2.1 (hz _ pr) (hk _ pc)) (fun K => ff_X13_two)) (fun rr ⟨hr, fR⟩ => w_monoE hr (fun rc ⟨⟨q1, q2⟩, q3, q4, q5, q6, q7⟩ => ⟨⟨⟨q1, CI_tw q7 q5 q6 hci, jnR_fr fR (by decide) (by decide) h.1.2.2⟩, q2⟩, NM_fr q7 (fun g hg h9 => by unfold twQ skP at hg; omega) h.2, hp _ _ q7 q4.2 q4.1 q6 pc, hq _ _ fR q3.2 q3.1 pr⟩))
  have hs0 : Te (lsV S.1 (fun K => ce_X11_two S.1 K 0 x1 x2 x3 S.2.1) (fun k z => if k = 1 then some (1, z) else if k = 4 then some (2, z) else none) (fun K => qe_X13_two K x1 x2 x3 S.2.2)) (fun S1 => REL S1 ∧ dPhi S.1 ≤ dPhi S1.1) := by
    refine st_int (w_monoE hc1 (fun rr hr => w_monoE hr (fun rc hb => hb.1))) (fun j k hm => ?_)
    simp only [List.mem_cons, List.not_mem_nil, or_false, Prod.mk.injEq] at hm
    rcases hm with ⟨rfl, rfl⟩ | ⟨rfl, rfl⟩
    · exact ⟨by decide, by decide, by decide, fun _ => rfl⟩
    · exact ⟨by decide, by decide, by decide, fun _ => rfl⟩
  have hmp : ∀ (k : Nat) (z : ow_MS) (r : Int32 × ow_MS), ((fun k z => if k = 1 then some (1, z) else if k = 4 then some (2, z) else none) : Nat → ow_MS → Option (Int32 × ow_MS)) k z = some r → r.2 = z := (fun k z r hr => by
    have hr : (if k = 1 then some (1, z) else if k = 4 then some (2, z) else none) = some r := hr
    by_cases c0 : k = 1
    · rw [if_pos c0] at hr
      cases hr
      rfl
    by_cases c1 : k = 4
    · rw [if_neg c0, if_pos c1] at hr
      cases hr
      rfl
    rw [if_neg c0, if_neg c1] at hr
    cases hr)
  have hs : Te (lsV S.1 (fun K => ce_X11_two S.1 K 0 x1 x2 x3 S.2.1) (fun k z => if k = 1 then some (1, z) else if k = 4 then some (2, z) else none) (fun K => qe_X13_two K x1 x2 x3 S.2.2)) (fun S1 => REL2 S1 ∧ dPhi S.1 ≤ dPhi S1.1) := w_monoE (lsV_nm hs0 (w_monoE (te_in2 hc1) (fun rc ⟨_, hb⟩ => hb.2.1)) hmp) (fun S1 ⟨⟨q1, q2⟩, q3⟩ => ⟨⟨q1, q3⟩, q2⟩)
  exact lsV_pp hs (w_monoE (te_in2 hc1) (fun rc ⟨_, hb⟩ => hb.2.2.1)) (w_monoE (te_out hc1) (fun rr ⟨_, hb⟩ => hb.2.2.2)) (fun y v hy => hc (fun g => g = 52001) y _ (fr_J rfl) (fun g hg h9 => by unfold ciX at h9; omega) hy) hmp
theorem s3_conway2 (hc : keepP ciX Pc) (hk : ∀ y, Pc y → cwK y ∧ twK y) (hp : ∀ y y1, fr skP y y1 → cwK y1 → twK y1 → knC y1 → (∀ D, cOK D → slC y 25000 1 D → slC y1 25000 1 D) → Pc y → Pc y1) (hz : ∀ z, Pr z → cwR z ∧ twR z) (hq : ∀ z z1, fr (pf [1, 41, 42, 43, 44, 46] []) z z1 → cwR z1 → twR z1 → Pr z → Pr z1) : stpX Pc Pr lst_conway := by
  intro S x1 x2 x3 x4 x5 h pc pr
  obtain ⟨⟨St, kS⟩, hMS, -⟩ := id h.1.1
  have hc1 : Te (fun K => qe_X13_conway K x1 x2 S.2.2) (fun rr => Te (fun K => ce_X11_conway S.1 K 0 x1 x2 S.2.1) (fun rc => (REL (S.1, rc.2.2, rr.2) ∧ ansI [(1, 1)] rr rc) ∧ NM rc.2.2 ∧ Pc rc.2.2 ∧ Pr rr.2)) := w_monoE (te_and (te_fo (c_conway (vl := S.1) (x := x1) (x' := x2) h.1.1 h.1.2.1.1 h.2 (hz _ pr).1 (hk _ pc).1) (fun K => ff_X13_conway)) (xq_conT (d := x1) (x := x2) kS.1 kS.2.2.1 kS.2.2.2.2 (hz _ pr).2)) (fun rr ⟨⟨hr, fR⟩, qT⟩ => w_monoE (te_and hr (te_and (tc_conK (x := x1) (x' := x2) h.1.1.2.1 h.1.2.1.1) (xc_conT (x := x1) (x' := x2) hMS kS.2.2.2.1 kS.2.2.2.2 h.1.2.1.2.2.1 (hk _ pc).2))) (fun rc ⟨⟨⟨q1, q2⟩, q3, q4, q5, q6⟩, q7, q8⟩ => ⟨⟨⟨q1, CI_sk q6 q5 q7 h.1.2.1, jnR_fr fR (by decide) (by decide) h.1.2.2⟩, q2⟩, NM_fr q6 (fun g hg h9 => by unfold skP at hg; omega) h.2, hp _ _ q6 q4 q8 q5 q7 pc, hq _ _ fR q3 qT pr⟩))
  have hs0 : Te (lsV S.1 (fun K => ce_X11_conway S.1 K 0 x1 x2 S.2.1) (fun k z => if k = 1 then some (1, z) else none) (fun K => qe_X13_conway K x1 x2 S.2.2)) (fun S1 => REL S1 ∧ dPhi S.1 ≤ dPhi S1.1) := by
    refine st_int (w_monoE hc1 (fun rr hr => w_monoE hr (fun rc hb => hb.1))) (fun j k hm => ?_)
    simp only [List.mem_cons, List.not_mem_nil, or_false, Prod.mk.injEq] at hm
    obtain ⟨rfl, rfl⟩ := hm
    exact ⟨by decide, by decide, by decide, fun _ => rfl⟩
  have hmp : ∀ (k : Nat) (z : ow_MS) (r : Int32 × ow_MS), ((fun k z => if k = 1 then some (1, z) else none) : Nat → ow_MS → Option (Int32 × ow_MS)) k z = some r → r.2 = z := (fun k z r hr => by
    have hr : (if k = 1 then some (1, z) else none) = some r := hr
    by_cases c0 : k = 1
    · rw [if_pos c0] at hr
      cases hr
      rfl
    rw [if_neg c0] at hr
    cases hr)
  have hs : Te (lsV S.1 (fun K => ce_X11_conway S.1 K 0 x1 x2 S.2.1) (fun k z => if k = 1 then some (1, z) else none) (fun K => qe_X13_conway K x1 x2 S.2.2)) (fun S1 => REL2 S1 ∧ dPhi S.1 ≤ dPhi S1.1) := w_monoE (lsV_nm hs0 (w_monoE (te_in2 hc1) (fun rc ⟨_, hb⟩ => hb.2.1)) hmp) (fun S1 ⟨⟨q1, q2⟩, q3⟩ => ⟨⟨q1, q3⟩, q2⟩)
  exact lsV_pp hs (w_monoE (te_in2 hc1) (fun rc ⟨_, hb⟩ => hb.2.2.1)) (w_monoE (te_out hc1) (fun rr ⟨_, hb⟩ => hb.2.2.2)) (fun y v hy => hc (fun g => g = 52001) y _ (fr_J rfl) (fun g hg h9 => by unfold ciX at h9; omega) hy) hmp
variable {Qc Qr : ow_MS → Prop}
theorem twK_0 {y : ow_MS} (hY : ∀ g, ¬ spc g → y.1 g = 0 ∧ ∀ i, y.2.1 g i = 0) : twK y := ⟨(0, []), ⟨(hY 25003 (by unfold spc; omega)).2 0, (hY 25002 (by unfold spc; omega)).2 0, fun i a hi => (by rw [List.getElem?_nil] at hi; cases hi)⟩, ⟨Nat.zero_le _, Nat.zero_le _, fun a ha => absurd ha List.not_mem_nil⟩, Or.inl rfl⟩
theorem twR_0 {z : ow_MS} (hz : ∀ g i, ¬ (73 ≤ g ∧ g ≤ 76 ∨ 97 ≤ g ∧ g ≤ 107) → z.2.1 g i = 0) : twR z := fun T1 hT => Or.inl (by
  have e := hT.2.2.1
  rw [hz 45 0 (by omega)] at e
  have l := hT.1
  exact List.eq_nil_of_length_eq_zero (nI_inj9 (a := 0) (b := T1.length) (by omega) (by omega) e).symm)
theorem pc_keep5 (hc : keepP ciX Qc) : keepP ciX (fun y => cwK y ∧ cjT y ∧ twK y ∧ Qc y) := fun F y y1 hf hF h => ⟨cwK_fr hf (fun g hg h9 => hF g hg (by unfold ciX; omega)) h.1, cjT_fr hf (fun h9 => hF _ h9 (by unfold ciX; omega)) (fun h9 => hF _ h9 (by unfold ciX; omega)) h.2.1, twK_fr hf (fun g hg h9 => hF g hg (by unfold ciX; omega)) h.2.2.1, hc F y y1 hf hF h.2.2.2⟩
theorem pr_keep5 (hr : keepP rfX Qr) : keepP rfX (fun z => cwR z ∧ enW z ∧ epA z ∧ twR z ∧ Qr z) := fun F z z1 hf hF h => ⟨cwR_fr hf (fun h9 => hF _ h9 (by unfold rfX; omega)) (fun h9 => hF _ h9 (by unfold rfX; omega)) h.1, enW_fr hf (fun h9 => hF _ h9 (by unfold rfX; omega)) h.2.1, epA_keep F z z1 hf hF h.2.2.1, twR_fr hf (fun h9 => hF _ h9 (by unfold rfX; omega)) (fun h9 => hF _ h9 (by unfold rfX; omega)) h.2.2.2.1, hr F z z1 hf hF h.2.2.2.2⟩
theorem tw_jn {y y1 : ow_MS} (hf : fr jnP y y1) (hs : ∀ D, cOK D → slC y 25000 0 D → slC y1 25000 0 D) (h : twK y) : twK y1 := by
  obtain ⟨C, c1, c2, c3⟩ := h
  exact ⟨C, hs C c2 c1, c2, c3.imp id (fun ⟨A, sg, c, q1, q2, q3⟩ => ⟨A, sg, c, q1, q2, gdK_fr hf (by unfold jnP; omega) q3⟩)⟩
end XTWS2
end
section
/-! 99zzzzzzzzzzzzzzzzyc.xch1 -/
/-! chain: numbers modulo a prime; rows, their span, how many of them count -/
abbrev vc9 : Type := Nat → Int
/-- alike modulo p, up to n -/
def zq9 (p : Int) (n : Nat) (u v : vc9) : Prop := ∀ i, i < n → p ∣ u i - v i
def lc9 : List Int → List vc9 → vc9
  | c :: cs, v :: vs => fun i => c * v i + lc9 cs vs i
  | _, _ => fun _ => 0
def sp9 (p : Int) (n : Nat) (vs : List vc9) (v : vc9) : Prop := ∃ cs, zq9 p n v (lc9 cs vs)
theorem dvr9 {p a : Int} (c : Int) (h : p ∣ a) : p ∣ c * a := Int.dvd_trans h (Int.dvd_mul_left c a)
theorem dvl9 {p a : Int} (c : Int) (h : p ∣ a) : p ∣ a * c := Int.dvd_trans h (Int.dvd_mul_right a c)
def pr9 (p : Int) : Prop := 2 ≤ p ∧ ∀ a b : Int, p ∣ a * b → p ∣ a ∨ p ∣ b
def iv9 (p : Int) : Prop := ∀ a : Int, ¬ p ∣ a → ∃ b, p ∣ a * b - 1
section XCH1
variable {p : Int} {n : Nat} {u v w : vc9} {vs us : List vc9}
theorem zq_r : zq9 p n v v := fun i _ => by rw [Int.sub_self]; exact Int.dvd_zero p
theorem zq_s (h : zq9 p n u v) : zq9 p n v u := fun i hi => by
  have := Int.dvd_neg.mpr (h i hi)
  rw [Int.neg_sub] at this
  exact this
theorem zq_t (h1 : zq9 p n u v) (h2 : zq9 p n v w) : zq9 p n u w := fun i hi => by
  have := Int.dvd_add (h1 i hi) (h2 i hi)
  rw [show u i - v i + (v i - w i) = u i - w i by omega] at this
  exact this
theorem zq_a {u' v' : vc9} (h1 : zq9 p n u v) (h2 : zq9 p n u' v') : zq9 p n (fun i => u i + u' i) (fun i => v i + v' i) := fun i hi => by
  have := Int.dvd_add (h1 i hi) (h2 i hi)
  rw [show u i - v i + (u' i - v' i) = u i + u' i - (v i + v' i) by omega] at this
  exact this
theorem zq_m (c : Int) (h : zq9 p n u v) : zq9 p n (fun i => c * u i) (fun i => c * v i) := fun i hi => by
  have := dvr9 c (h i hi)
  rw [Int.mul_sub] at this
  exact this
theorem lc_nil (cs : List Int) : lc9 cs [] = fun _ => 0 := by cases cs <;> rfl
theorem lc_z (vs : List vc9) : lc9 [] vs = fun _ => 0 := by cases vs <;> rfl
/-- sums of combinations -/
theorem lc_add : ∀ (vs : List vc9) (cs ds : List Int), ∃ es, ∀ i, lc9 es vs i = lc9 cs vs i + lc9 ds vs i
  | [], cs, ds => ⟨[], fun i => by rw [lc_nil, lc_nil, lc_nil]; rfl⟩
  | v :: vs, [], ds => ⟨ds, fun i => by rw [lc_z]; show _ = 0 + _; omega⟩
  | v :: vs, c :: cs, [] => ⟨c :: cs, fun i => by rw [lc_z]; show _ = _ + 0; omega⟩
  | v :: vs, c :: cs, d :: ds => by
    obtain ⟨es, h⟩ := lc_add vs cs ds
    refine ⟨(c + d) :: es, fun i => ?_⟩
    show (c + d) * v i + lc9 es vs i = c * v i + lc9 cs vs i + (d * v i + lc9 ds vs i)
    rw [h i, Int.add_mul]
    omega
theorem lc_mul (c : Int) : ∀ (vs : List vc9) (cs : List Int), ∃ es, ∀ i, lc9 es vs i = c * lc9 cs vs i
  | [], cs => ⟨[], fun i => by rw [lc_nil, lc_nil]; exact (Int.mul_zero c).symm⟩
  | v :: vs, [] => ⟨[], fun i => by rw [lc_z]; exact (Int.mul_zero c).symm⟩
  | v :: vs, d :: ds => by
    obtain ⟨es, h⟩ := lc_mul c vs ds
    refine ⟨(c * d) :: es, fun i => ?_⟩
    show (c * d) * v i + lc9 es vs i = c * (d * v i + lc9 ds vs i)
    rw [h i, Int.mul_add, Int.mul_assoc]
theorem sp_0 : sp9 p n vs (fun _ => 0) := ⟨[], by rw [lc_z]; exact zq_r⟩
theorem sp_q (h : zq9 p n u v) (hv : sp9 p n vs v) : sp9 p n vs u := by
  obtain ⟨cs, hc⟩ := hv
  exact ⟨cs, zq_t h hc⟩
theorem sp_a (hu : sp9 p n vs u) (hv : sp9 p n vs v) : sp9 p n vs (fun i => u i + v i) := by
  obtain ⟨cs, hc⟩ := hu
  obtain ⟨ds, hd⟩ := hv
  obtain ⟨es, he⟩ := lc_add vs cs ds
  refine ⟨es, ?_⟩
  rw [show lc9 es vs = fun i => lc9 cs vs i + lc9 ds vs i from funext he]
  exact zq_a hc hd
theorem sp_m (c : Int) (hu : sp9 p n vs u) : sp9 p n vs (fun i => c * u i) := by
  obtain ⟨cs, hc⟩ := hu
  obtain ⟨es, he⟩ := lc_mul c vs cs
  refine ⟨es, ?_⟩
  rw [show lc9 es vs = fun i => c * lc9 cs vs i from funext he]
  exact zq_m c hc
theorem sp_h : sp9 p n (v :: vs) v := ⟨[1], by
  show zq9 p n v (fun i => 1 * v i + lc9 [] vs i)
  rw [lc_z]
  exact fun i _ => by
    show p ∣ v i - (1 * v i + 0)
    rw [Int.one_mul, Int.add_zero, Int.sub_self]
    exact Int.dvd_zero p⟩
theorem sp_c (h : sp9 p n vs u) : sp9 p n (v :: vs) u := by
  obtain ⟨cs, hc⟩ := h
  refine ⟨0 :: cs, ?_⟩
  show zq9 p n u (fun i => 0 * v i + lc9 cs vs i)
  rw [show (fun i => 0 * v i + lc9 cs vs i) = lc9 cs vs from funext (fun i => by rw [Int.zero_mul, Int.zero_add])]
  exact hc
theorem sp_in : ∀ {vs : List vc9}, v ∈ vs → sp9 p n vs v
  | [], h => absurd h List.not_mem_nil
  | w :: vs, h => by
    rcases List.mem_cons.mp h with e | e
    · rw [e]
      exact sp_h
    · exact sp_c (sp_in e)
theorem lc_sp : ∀ (cs : List Int) (us : List vc9), (∀ u, u ∈ us → sp9 p n vs u) → sp9 p n vs (lc9 cs us)
  | [], us, _ => by
    rw [lc_z]
    exact sp_0
  | c :: cs, [], _ => sp_0
  | c :: cs, u :: us, h => sp_a (sp_m c (h u List.mem_cons_self)) (lc_sp cs us (fun t ht => h t (List.mem_cons_of_mem _ ht)))
/-- spans within spans -/
theorem sp_tr (h : sp9 p n us w) (h2 : ∀ u, u ∈ us → sp9 p n vs u) : sp9 p n vs w := by
  obtain ⟨cs, hc⟩ := h
  exact sp_q hc (lc_sp cs us h2)
theorem sp_cons (h : sp9 p n (v :: vs) u) : ∃ c w, sp9 p n vs w ∧ zq9 p n u (fun i => c * v i + w i) := by
  obtain ⟨cs, hc⟩ := h
  cases cs with
  | nil =>
    rw [lc_z] at hc
    refine ⟨0, fun _ => 0, sp_0, fun i hi => ?_⟩
    have := hc i hi
    show p ∣ u i - (0 * v i + 0)
    rw [Int.zero_mul, Int.add_zero]
    exact this
  | cons c cs => exact ⟨c, lc9 cs vs, ⟨cs, zq_r⟩, hc⟩
end XCH1
/-- the highest places of the vectors of a set -/
def Ld9 (p : Int) (n : Nat) (S : vc9 → Prop) (i : Nat) : Prop := i < n ∧ ∃ v, S v ∧ ¬ p ∣ v i ∧ ∀ j, i < j → j < n → p ∣ v j
noncomputable def cn9 (P : Nat → Prop) : Nat → Nat
  | 0 => 0
  | k + 1 => cn9 P k + @ite _ (P k) (Classical.propDecidable _) 1 0
/-- how many count -/
noncomputable def dm9 (p : Int) (n : Nat) (S : vc9 → Prop) : Nat := cn9 (Ld9 p n S) n
noncomputable def rk9 (p : Int) (n : Nat) : List vc9 → Nat
  | [] => 0
  | v :: vs => rk9 p n vs + @ite _ (sp9 p n vs v) (Classical.propDecidable _) 0 1
theorem cn_y {P : Nat → Prop} {k : Nat} (h : P k) : cn9 P (k + 1) = cn9 P k + 1 := by
  show cn9 P k + @ite _ (P k) (Classical.propDecidable _) 1 0 = _
  rw [if_pos h]
theorem cn_n {P : Nat → Prop} {k : Nat} (h : ¬ P k) : cn9 P (k + 1) = cn9 P k := by
  show cn9 P k + @ite _ (P k) (Classical.propDecidable _) 1 0 = _
  rw [if_neg h, Nat.add_zero]
theorem cn_cg {P Q : Nat → Prop} : ∀ {k : Nat}, (∀ i, i < k → (P i ↔ Q i)) → cn9 P k = cn9 Q k
  | 0, _ => rfl
  | k + 1, h => by
    have ih := cn_cg (P := P) (Q := Q) (k := k) (fun i hi => h i (by omega))
    by_cases c : P k
    · rw [cn_y c, cn_y ((h k (by omega)).mp c), ih]
    · rw [cn_n c, cn_n (fun h9 => c ((h k (by omega)).mpr h9)), ih]
theorem cn_one {P Q : Nat → Prop} {a : Nat} : ∀ {k : Nat}, a < k → ¬ P a → (∀ i, i < k → (Q i ↔ P i ∨ i = a)) → cn9 Q k = cn9 P k + 1
  | 0, h, _, _ => absurd h (Nat.not_lt_zero _)
  | k + 1, h, hP, hQ => by
    by_cases e : a = k
    · rw [← e, cn_y ((hQ a h).mpr (Or.inr rfl)), cn_n hP]
      exact congrArg (· + 1) (cn_cg (fun i hi => by
        rw [hQ i (by omega)]
        exact ⟨fun h9 => h9.elim id (fun h8 => by omega), Or.inl⟩))
    · have ih := cn_one (k := k) (P := P) (Q := Q) (by omega) hP (fun i hi => hQ i (by omega))
      by_cases c : P k
      · rw [cn_y c, cn_y ((hQ k (by omega)).mpr (Or.inl c)), ih]
      · rw [cn_n c, cn_n (fun h9 => ((hQ k (by omega)).mp h9).elim c (fun h8 => e h8.symm)), ih]
theorem cn_not {P : Nat → Prop} : ∀ {k : Nat}, cn9 P k + cn9 (fun i => ¬ P i) k = k
  | 0 => rfl
  | k + 1 => by
    have ih := cn_not (P := P) (k := k)
    by_cases c : P k
    · rw [cn_y c, cn_n (P := fun i => ¬ P i) (fun h9 => h9 c)]
      omega
    · rw [cn_n c, cn_y (P := fun i => ¬ P i) c]
      omega
section XCH2
variable {p : Int} {n : Nat} {u v w : vc9} {vs us : List vc9}
theorem rk_y (h : sp9 p n vs v) : rk9 p n (v :: vs) = rk9 p n vs := by
  show rk9 p n vs + @ite _ (sp9 p n vs v) (Classical.propDecidable _) 0 1 = _
  rw [if_pos h, Nat.add_zero]
theorem rk_n (h : ¬ sp9 p n vs v) : rk9 p n (v :: vs) = rk9 p n vs + 1 := by
  show rk9 p n vs + @ite _ (sp9 p n vs v) (Classical.propDecidable _) 0 1 = _
  rw [if_neg h]
/-- a vector that is not in the span can be changed by the span so that its highest place is new -/
theorem ld_red (hp : pr9 p) (hi : iv9 p) : ∀ (d : Nat) (v : vc9), (∀ j, d ≤ j → j < n → p ∣ v j) → ¬ sp9 p n vs v → ∃ (w : vc9) (a : Nat), a < n ∧ sp9 p n vs (fun i => v i - w i) ∧ ¬ p ∣ w a ∧ (∀ j, a < j → j < n → p ∣ w j) ∧ ¬ Ld9 p n (sp9 p n vs) a
  | 0, v, h, hs => absurd (sp_q (fun i hi => by
      show p ∣ v i - 0
      rw [Int.sub_zero]
      exact h i (by omega) hi) sp_0) hs
  | d + 1, v, h, hs => by
    by_cases hd : d < n
    · by_cases c : p ∣ v d
      · exact ld_red hp hi d v (fun j h1 h2 => by
          by_cases e : j = d
          · rw [e]
            exact c
          · exact h j (by omega) h2) hs
      · by_cases hl : Ld9 p n (sp9 p n vs) d
        · obtain ⟨-, w, w1, w2, w3⟩ := hl
          obtain ⟨b, hb⟩ := hi (w d) w2
          -- v - (v d * b) w
          have s9 : sp9 p n vs (fun i => (v d * b) * w i) := sp_m _ w1
          have h2 : ¬ sp9 p n vs (fun i => v i - (v d * b) * w i) := fun h9 => hs (sp_q (fun i hi => by
            show p ∣ v i - (v i - v d * b * w i + v d * b * w i)
            rw [show v i - (v i - v d * b * w i + v d * b * w i) = 0 by omega]
            exact Int.dvd_zero p) (sp_a h9 s9))
          obtain ⟨w', a, a1, a2, a3, a4, a5⟩ := ld_red hp hi d (fun i => v i - (v d * b) * w i) (fun j h1 h3 => by
            show p ∣ v j - v d * b * w j
            by_cases e : j = d
            · rw [e]
              have := dvr9 (-(v d)) hb
              rw [show -(v d) * (w d * b - 1) = v d - v d * b * w d by rw [Int.mul_sub, Int.mul_one, Int.neg_mul, Int.sub_neg, Int.mul_comm (w d) b, ← Int.mul_assoc]; omega] at this
              exact this
            · exact Int.dvd_sub (h j (by omega) h3) (dvr9 _ (w3 j (by omega) h3))) h2
          refine ⟨w', a, a1, sp_q (fun i hi => ?_) (sp_a a2 s9), a3, a4, a5⟩
          show p ∣ v i - w' i - (v i - v d * b * w i - w' i + v d * b * w i)
          rw [show v i - w' i - (v i - v d * b * w i - w' i + v d * b * w i) = 0 by omega]
          exact Int.dvd_zero p
        · refine ⟨v, d, hd, sp_q (fun i hi => ?_) sp_0, c, fun j h1 h2 => h j (by omega) h2, hl⟩
          show p ∣ v i - v i - 0
          rw [show v i - v i - 0 = 0 by omega]
          exact Int.dvd_zero p
    · exact ld_red hp hi d v (fun j h1 h2 => absurd h2 (by omega)) hs
theorem dm_cg {S T : vc9 → Prop} (h : ∀ v, S v ↔ T v) : dm9 p n S = dm9 p n T := cn_cg (fun i _ => ⟨fun ⟨h1, v, h2, h3⟩ => ⟨h1, v, (h v).mp h2, h3⟩, fun ⟨h1, v, h2, h3⟩ => ⟨h1, v, (h v).mpr h2, h3⟩⟩)
/-- the number that counts hangs on the span alone -/
theorem rk_dm (hp : pr9 p) (hi : iv9 p) : ∀ vs : List vc9, rk9 p n vs = dm9 p n (sp9 p n vs)
  | [] => by
    have h0 : ∀ k, k ≤ n → cn9 (Ld9 p n (sp9 p n [])) k = 0 := by
      intro k
      induction k with
      | zero => intro _; rfl
      | succ k ih =>
        intro hk
        rw [cn_n (fun h9 => ?_), ih (by omega)]
        obtain ⟨h1, v, ⟨cs, hc⟩, h3, -⟩ := h9
        rw [lc_nil] at hc
        have := hc k h1
        rw [Int.sub_zero] at this
        exact h3 this
    exact (h0 n (Nat.le_refl n)).symm
  | v :: vs => by
    have ih := rk_dm hp hi vs
    by_cases c : sp9 p n vs v
    · rw [rk_y c, ih]
      refine dm_cg (fun w => ⟨sp_c, fun h => sp_tr h (fun u hu => ?_)⟩)
      rcases List.mem_cons.mp hu with e | e
      · rw [e]
        exact c
      · exact sp_in e
    · rw [rk_n c, ih]
      obtain ⟨w, a, a1, a2, a3, a4, a5⟩ := ld_red hp hi n v (fun j h1 h2 => absurd h2 (by omega)) c
      have hwv : sp9 p n (v :: vs) w := sp_q (fun i hi => by
        show p ∣ w i - (v i + (-1) * (v i - w i))
        rw [show w i - (v i + (-1) * (v i - w i)) = 0 by omega]
        exact Int.dvd_zero p) (sp_a sp_h (sp_m (-1) (sp_c a2)))
      refine (cn_one (P := Ld9 p n (sp9 p n vs)) a1 a5 (fun i hi9 => ⟨fun h => ?_, fun h => ?_⟩)).symm
      · obtain ⟨h1, x, h2, h3, h4⟩ := h
        obtain ⟨c1, y, y1, y2⟩ := sp_cons h2
        -- x = c1 v + y = c1 w + (c1 (v - w) + y)
        have y3 : sp9 p n vs (fun i => c1 * (v i - w i) + y i) := sp_a (sp_m c1 a2) y1
        have x2 : ∀ t, t < n → p ∣ x t - (c1 * w t + (c1 * (v t - w t) + y t)) := fun t ht => by
          have := y2 t ht
          rw [show x t - (c1 * w t + (c1 * (v t - w t) + y t)) = x t - (c1 * v t + y t) by rw [Int.mul_sub]; omega]
          exact this
        by_cases e : i = a
        · exact Or.inr e
        refine Or.inl ?_
        by_cases hc1 : p ∣ c1
        · refine ⟨h1, fun t => c1 * (v t - w t) + y t, y3, fun h9 => h3 ?_, fun t t1 t2 => ?_⟩
          · have := Int.dvd_add (x2 i hi9) (Int.dvd_add (dvl9 (w i) hc1) h9)
            rw [show x i - (c1 * w i + (c1 * (v i - w i) + y i)) + (c1 * w i + (c1 * (v i - w i) + y i)) = x i by omega] at this
            exact this
          · have := Int.dvd_sub (h4 t t1 t2) (Int.dvd_add (x2 t t2) (dvl9 (w t) hc1))
            rw [show x t - (x t - (c1 * w t + (c1 * (v t - w t) + y t)) + c1 * w t) = c1 * (v t - w t) + y t by omega] at this
            exact this
        · rcases Nat.lt_trichotomy i a with e9 | e9 | e9
          · -- then a is a highest place of the span: no
            exfalso
            refine a5 ⟨a1, fun t => c1 * (v t - w t) + y t, y3, fun h9 => ?_, fun t t1 t2 => ?_⟩
            · have := Int.dvd_sub (h4 a e9 a1) (Int.dvd_add (x2 a a1) h9)
              rw [show x a - (x a - (c1 * w a + (c1 * (v a - w a) + y a)) + (c1 * (v a - w a) + y a)) = c1 * w a by omega] at this
              exact (hp.2 _ _ this).elim hc1 a3
            · have := Int.dvd_sub (h4 t (by omega) t2) (Int.dvd_add (x2 t t2) (dvr9 c1 (a4 t t1 t2)))
              rw [show x t - (x t - (c1 * w t + (c1 * (v t - w t) + y t)) + c1 * w t) = c1 * (v t - w t) + y t by omega] at this
              exact this
          · exact absurd e9 e
          · refine ⟨h1, fun t => c1 * (v t - w t) + y t, y3, fun h9 => h3 ?_, fun t t1 t2 => ?_⟩
            · have := Int.dvd_add (x2 i hi9) (Int.dvd_add (dvr9 c1 (a4 i e9 hi9)) h9)
              rw [show x i - (c1 * w i + (c1 * (v i - w i) + y i)) + (c1 * w i + (c1 * (v i - w i) + y i)) = x i by omega] at this
              exact this
            · have := Int.dvd_sub (h4 t t1 t2) (Int.dvd_add (x2 t t2) (dvr9 c1 (a4 t (by omega) t2)))
              rw [show x t - (x t - (c1 * w t + (c1 * (v t - w t) + y t)) + c1 * w t) = c1 * (v t - w t) + y t by omega] at this
              exact this
      · rcases h with ⟨h1, x, h2, h3⟩ | h
        · exact ⟨h1, x, sp_c h2, h3⟩
        · rw [h]
          exact ⟨a1, w, hwv, a3, a4⟩
/-- lists with the same span -/
theorem rk_sp (hp : pr9 p) (hi : iv9 p) (h1 : ∀ v, v ∈ vs → sp9 p n us v) (h2 : ∀ u, u ∈ us → sp9 p n vs u) : rk9 p n vs = rk9 p n us := by
  rw [rk_dm hp hi, rk_dm hp hi]
  exact dm_cg (fun w => ⟨fun h => sp_tr h h1, fun h => sp_tr h h2⟩)
end XCH2
end
section
/-! 99zzzzzzzzzzzzzzzzyd.xch2 -/
/-! chain: maps between rows; what is left of kernels by images -/
/-- the image of a row, the images of the places being d -/
def ap9 (d : Nat → vc9) : Nat → vc9 → vc9
  | 0, _ => fun _ => 0
  | n + 1, v => fun j => ap9 d n v j + v n * d n j
def rwl9 (d : Nat → vc9) : Nat → List vc9
  | 0 => []
  | n + 1 => d n :: rwl9 d n
section XCH3
variable {p : Int} {n m : Nat} {d : Nat → vc9} {u v w : vc9}
theorem ap_add : ∀ {n : Nat} (j : Nat), ap9 d n (fun i => u i + v i) j = ap9 d n u j + ap9 d n v j
  | 0, _ => rfl
  | n + 1, j => by
    show ap9 d n (fun i => u i + v i) j + (u n + v n) * d n j = ap9 d n u j + u n * d n j + (ap9 d n v j + v n * d n j)
    rw [ap_add j, Int.add_mul]
    omega
theorem ap_mul (c : Int) : ∀ {n : Nat} (j : Nat), ap9 d n (fun i => c * u i) j = c * ap9 d n u j
  | 0, _ => (Int.mul_zero c).symm
  | n + 1, j => by
    show ap9 d n (fun i => c * u i) j + c * u n * d n j = c * (ap9 d n u j + u n * d n j)
    rw [ap_mul c j, Int.mul_add, Int.mul_assoc]
theorem ap_q : ∀ {n : Nat}, zq9 p n u v → zq9 p m (ap9 d n u) (ap9 d n v)
  | 0, _ => zq_r
  | n + 1, h => zq_a (ap_q (n := n) (fun i hi => h i (by omega))) (fun j hj => by
    show p ∣ u n * d n j - v n * d n j
    rw [← Int.sub_mul]
    exact dvl9 _ (h n (by omega)))
theorem ap_0 : ∀ {n : Nat} (j : Nat), ap9 d n (fun _ => 0) j = 0
  | 0, _ => rfl
  | n + 1, j => by
    show ap9 d n (fun _ => 0) j + 0 * d n j = 0
    rw [ap_0 j, Int.zero_mul]
    rfl
theorem ap_cg : ∀ {n : Nat}, (∀ i, i < n → u i = v i) → ap9 d n u = ap9 d n v
  | 0, _ => rfl
  | n + 1, h => by
    show (fun j => ap9 d n u j + u n * d n j) = fun j => ap9 d n v j + v n * d n j
    rw [ap_cg (n := n) (fun i hi => h i (by omega)), h n (by omega)]
/-- spans are images -/
theorem sp_ap : ∀ {n : Nat} {w : vc9}, sp9 p m (rwl9 d n) w ↔ ∃ v, zq9 p m w (ap9 d n v)
  | 0, w => by
    constructor
    · rintro ⟨cs, h⟩
      have e : rwl9 d 0 = [] := rfl
      rw [e, lc_nil] at h
      exact ⟨fun _ => 0, h⟩
    · rintro ⟨v, h⟩
      exact sp_q h sp_0
  | n + 1, w => by
    constructor
    · intro h
      obtain ⟨c, w', h1, h2⟩ := sp_cons h
      obtain ⟨v, hv⟩ := sp_ap.mp h1
      refine ⟨fun i => if i = n then c else v i, zq_t h2 ?_⟩
      have e : ap9 d n (fun i => if i = n then c else v i) = ap9 d n v := ap_cg (fun i hi => if_neg (by omega))
      intro j hj
      show p ∣ c * d n j + w' j - (ap9 d n (fun i => if i = n then c else v i) j + (if n = n then c else v n) * d n j)
      rw [e, if_pos rfl]
      have := hv j hj
      rw [show c * d n j + w' j - (ap9 d n v j + c * d n j) = w' j - ap9 d n v j by omega]
      exact this
    · rintro ⟨v, h⟩
      exact sp_q h (sp_a (sp_c (sp_ap.mpr ⟨v, zq_r⟩)) (sp_m (v n) sp_h))
def kr9 (p : Int) (m : Nat) (d : Nat → vc9) (n : Nat) (v : vc9) : Prop := zq9 p m (ap9 d n v) (fun _ => 0)
theorem ap_cut {k : Nat} : ∀ {n : Nat}, k ≤ n → (∀ j, k ≤ j → j < n → p ∣ v j) → zq9 p m (ap9 d n v) (ap9 d k v)
  | 0, h, _ => by
    rw [show k = 0 by omega]
    exact zq_r
  | n + 1, h, hz => by
    by_cases e : k = n + 1
    · rw [e]
      exact zq_r
    · refine zq_t ?_ (ap_cut (n := n) (by omega) (fun j h1 h2 => hz j h1 (by omega)))
      intro j hj
      show p ∣ ap9 d n v j + v n * d n j - ap9 d n v j
      rw [show ap9 d n v j + v n * d n j - ap9 d n v j = v n * d n j by omega]
      exact dvl9 _ (hz n (by omega) (by omega))
theorem nu9 (h2p : 2 ≤ p) : ¬ p ∣ -1 := fun h9 => by
  have := Int.le_of_dvd (by decide) (Int.dvd_neg.mpr h9)
  omega
/-- kernel and rank -/
theorem kr_dm (h2p : 2 ≤ p) (hi : iv9 p) : dm9 p n (kr9 p m d n) + rk9 p m (rwl9 d n) = n := by
  have e1 : dm9 p n (kr9 p m d n) = cn9 (fun i => sp9 p m (rwl9 d i) (d i)) n := cn_cg (fun i hi9 => by
    constructor
    · rintro ⟨-, v, v1, v2, v3⟩
      obtain ⟨b, hb⟩ := hi (v i) v2
      have h1 : zq9 p m (ap9 d (i + 1) v) (fun _ => 0) := zq_t (zq_s (ap_cut (by omega) (fun j h1 h2 => v3 j (by omega) h2))) v1
      refine sp_ap.mpr ⟨fun t => -b * v t, fun j hj => ?_⟩
      have h2 := h1 j hj
      have h2 : p ∣ ap9 d i v j + v i * d i j - 0 := h2
      rw [ap_mul (-b) j]
      have h3 := dvr9 b h2
      have h4 := dvl9 (d i j) hb
      have h5 := Int.dvd_sub h3 h4
      rw [show b * (ap9 d i v j + v i * d i j - 0) - (v i * b - 1) * d i j = d i j - -b * ap9 d i v j by
        rw [Int.sub_zero, Int.mul_add, Int.sub_mul, Int.one_mul, Int.neg_mul, ← Int.mul_assoc b (v i), Int.mul_comm b (v i)]
        omega] at h5
      exact h5
    · intro h
      obtain ⟨c, hc⟩ := sp_ap.mp h
      refine ⟨hi9, fun t => if t < i then c t else if t = i then -1 else 0, ?_, ?_, ?_⟩
      · have h1 : zq9 p m (ap9 d n (fun t => if t < i then c t else if t = i then -1 else 0)) (ap9 d (i + 1) (fun t => if t < i then c t else if t = i then -1 else 0)) := ap_cut (by omega) (fun j j1 j2 => by
          show p ∣ (if j < i then c j else if j = i then -1 else 0)
          rw [if_neg (by omega), if_neg (by omega)]
          exact Int.dvd_zero p)
        refine zq_t h1 (fun j hj => ?_)
        show p ∣ ap9 d i (fun t => if t < i then c t else if t = i then -1 else 0) j + (if i < i then c i else if i = i then -1 else 0) * d i j - 0
        rw [ap_cg (v := c) (fun t ht => if_pos ht), if_neg (Nat.lt_irrefl i), if_pos rfl]
        have := Int.dvd_neg.mpr (hc j hj)
        rw [show -(d i j - ap9 d i c j) = ap9 d i c j + -1 * d i j - 0 by omega] at this
        exact this
      · show ¬ p ∣ (if i < i then c i else if i = i then -1 else 0)
        rw [if_neg (Nat.lt_irrefl i), if_pos rfl]
        intro h9
        exact nu9 h2p h9
      · intro j j1 j2
        show p ∣ (if j < i then c j else if j = i then -1 else 0)
        rw [if_neg (by omega), if_neg (by omega)]
        exact Int.dvd_zero p)
  have e2 : ∀ k, rk9 p m (rwl9 d k) = cn9 (fun i => ¬ sp9 p m (rwl9 d i) (d i)) k := by
    intro k
    induction k with
    | zero => rfl
    | succ k ih =>
      by_cases c : sp9 p m (rwl9 d k) (d k)
      · rw [cn_n (P := fun i => ¬ sp9 p m (rwl9 d i) (d i)) (fun h9 => h9 c), ← ih]
        exact rk_y c
      · rw [cn_y (P := fun i => ¬ sp9 p m (rwl9 d i) (d i)) c, ← ih]
        exact rk_n c
  rw [e1, e2]
  exact cn_not
end XCH3
/-- closed under sums, multiples and likeness -/
def sbs9 (p : Int) (n : Nat) (S : vc9 → Prop) : Prop := S (fun _ => 0) ∧ (∀ u v, S u → S v → S (fun i => u i + v i)) ∧ (∀ c u, S u → S (fun i => c * u i)) ∧ ∀ u v, zq9 p n u v → S v → S u
section XCH4
variable {p : Int} {n n' m : Nat} {S S' : vc9 → Prop} {d : Nat → vc9}
theorem sub_sp (vs : List vc9) : sbs9 p n (sp9 p n vs) := ⟨sp_0, fun _ _ => sp_a, fun c _ => sp_m c, fun _ _ => sp_q⟩
theorem sub_kr : sbs9 p n (kr9 p m d n) := by
  refine ⟨fun j hj => ?_, fun u v hu hv => ?_, fun c u hu => ?_, fun u v h hv => zq_t (ap_q h) hv⟩
  · rw [ap_0]
    exact Int.dvd_zero p
  · refine zq_t (fun j hj => ?_) (zq_a hu hv)
    rw [ap_add]
    show p ∣ ap9 d n u j + ap9 d n v j - (ap9 d n u j + ap9 d n v j)
    rw [Int.sub_self]
    exact Int.dvd_zero p
  · intro j hj
    rw [ap_mul]
    have := dvr9 c (hu j hj)
    rw [Int.mul_sub, Int.mul_zero] at this
    exact this
theorem sub_lc (hS : sbs9 p n S) : ∀ (cs : List Int) (vs : List vc9), (∀ v, v ∈ vs → S v) → S (lc9 cs vs)
  | [], vs, _ => by
    rw [lc_z]
    exact hS.1
  | c :: cs, [], _ => hS.1
  | c :: cs, v :: vs, h => hS.2.1 _ _ (hS.2.2.1 c v (h v List.mem_cons_self)) (sub_lc hS cs vs (fun t ht => h t (List.mem_cons_of_mem _ ht)))
theorem sub_in (hS : sbs9 p n S) {vs : List vc9} {w : vc9} (h : ∀ v, v ∈ vs → S v) (hw : sp9 p n vs w) : S w := by
  obtain ⟨cs, hc⟩ := hw
  exact hS.2.2.2 _ _ hc (sub_lc hS cs vs h)
/-- a set closed so is a span -/
theorem sub_ex (hi : iv9 p) (hS : sbs9 p n S) : ∃ vs : List vc9, (∀ v, v ∈ vs → S v) ∧ ∀ w, S w → sp9 p n vs w := by
  have key : ∀ k, k ≤ n → ∃ vs : List vc9, (∀ v, v ∈ vs → S v) ∧ ∀ w, S w → (∀ j, k ≤ j → j < n → p ∣ w j) → sp9 p n vs w := by
    intro k
    induction k with
    | zero =>
      intro _
      refine ⟨[], fun v hv => absurd hv List.not_mem_nil, fun w _ h => sp_q (fun i hi => ?_) sp_0⟩
      show p ∣ w i - 0
      rw [Int.sub_zero]
      exact h i (by omega) hi
    | succ k ih =>
      intro hk
      obtain ⟨vs, h1, h2⟩ := ih (by omega)
      by_cases c : Ld9 p n S k
      · obtain ⟨-, v, v1, v2, v3⟩ := c
        obtain ⟨b, hb⟩ := hi (v k) v2
        refine ⟨v :: vs, fun u hu => ?_, fun w hw hz => ?_⟩
        · rcases List.mem_cons.mp hu with e | e
          · rw [e]
            exact v1
          · exact h1 u e
        · have s1 : S (fun i => w i + (-(w k * b)) * v i) := hS.2.1 _ _ hw (hS.2.2.1 _ _ v1)
          have s2 := h2 _ s1 (fun j j1 j2 => by
            show p ∣ w j + -(w k * b) * v j
            by_cases e : j = k
            · rw [e]
              have := dvr9 (-(w k)) hb
              rw [show -(w k) * (v k * b - 1) = w k + -(w k * b) * v k by
                rw [Int.mul_sub, Int.mul_one, Int.neg_mul, Int.neg_mul, Int.mul_comm (v k) b, ← Int.mul_assoc]
                omega] at this
              exact this
            · exact Int.dvd_add (hz j (by omega) j2) (dvr9 _ (v3 j (by omega) j2)))
          refine sp_q (fun i hi => ?_) (sp_a (sp_c (v := v) s2) (sp_m (w k * b) sp_h))
          show p ∣ w i - (w i + -(w k * b) * v i + w k * b * v i)
          rw [show w i - (w i + -(w k * b) * v i + w k * b * v i) = 0 by rw [Int.neg_mul]; omega]
          exact Int.dvd_zero p
      · refine ⟨vs, h1, fun w hw hz => h2 w hw (fun j j1 j2 => ?_)⟩
        by_cases e : j = k
        · rw [e]
          by_cases c9 : p ∣ w k
          · exact c9
          · exact absurd ⟨by omega, w, hw, c9, fun t t1 t2 => hz t (by omega) t2⟩ c
        · exact hz j (by omega) j2
  obtain ⟨vs, h1, h2⟩ := key n (Nat.le_refl n)
  exact ⟨vs, h1, fun w hw => h2 w hw (fun j j1 j2 => absurd j2 (by omega))⟩
theorem dm_rk (hp : pr9 p) (hi : iv9 p) (hS : sbs9 p n S) {vs : List vc9} (h1 : ∀ v, v ∈ vs → S v) (h2 : ∀ w, S w → sp9 p n vs w) : dm9 p n S = rk9 p n vs := by
  rw [rk_dm hp hi]
  exact dm_cg (fun w => ⟨h2 w, sub_in hS h1⟩)
theorem lc_ap {F : Nat → vc9} (j : Nat) : ∀ (cs : List Int) (zs : List vc9), ap9 F n (lc9 cs zs) j = lc9 cs (zs.map (ap9 F n)) j
  | [], zs => by
    rw [lc_z, lc_z]
    exact ap_0 j
  | c :: cs, [] => ap_0 j
  | c :: cs, z :: zs => by
    show ap9 F n (fun i => c * z i + lc9 cs zs i) j = c * ap9 F n z j + lc9 cs (zs.map (ap9 F n)) j
    rw [ap_add, ap_mul, lc_ap j cs zs]
theorem sp_app : ∀ {xs bs : List vc9} {w : vc9}, sp9 p n (xs ++ bs) w ↔ ∃ cs b, sp9 p n bs b ∧ zq9 p n w (fun i => lc9 cs xs i + b i)
  | [], bs, w => by
    constructor
    · intro h
      refine ⟨[], w, h, fun i _ => ?_⟩
      show p ∣ w i - (0 + w i)
      rw [Int.zero_add, Int.sub_self]
      exact Int.dvd_zero p
    · rintro ⟨cs, b, h1, h2⟩
      refine sp_q (zq_t h2 (fun i _ => ?_)) h1
      rw [lc_nil]
      show p ∣ 0 + b i - b i
      rw [Int.zero_add, Int.sub_self]
      exact Int.dvd_zero p
  | x :: xs, bs, w => by
    constructor
    · intro h
      obtain ⟨c, w', h1, h2⟩ := sp_cons h
      obtain ⟨cs, b, h3, h4⟩ := sp_app.mp h1
      refine ⟨c :: cs, b, h3, zq_t h2 (fun i hi => ?_)⟩
      have := h4 i hi
      show p ∣ c * x i + w' i - (c * x i + lc9 cs xs i + b i)
      rw [show c * x i + w' i - (c * x i + lc9 cs xs i + b i) = w' i - (lc9 cs xs i + b i) by omega]
      exact this
    · rintro ⟨cs, b, h1, h2⟩
      have hb : sp9 p n ((x :: xs) ++ bs) b := sp_tr h1 (fun u hu => sp_in (List.mem_append_right _ hu))
      exact sp_q h2 (sp_a (lc_sp cs (x :: xs) (fun u hu => sp_in (List.mem_append_left _ hu))) hb)
/-- a map that is one to one and onto between what is left -/
theorem hd_eq (hp : pr9 p) (hi : iv9 p) {F : Nat → vc9} {Z Z' B B' : vc9 → Prop} (hZ : sbs9 p n Z) (hZ' : sbs9 p n' Z') (hB : sbs9 p n B) (hB' : sbs9 p n' B') (bZ : ∀ v, B v → Z v) (bZ' : ∀ v, B' v → Z' v) (fZ : ∀ v, Z' v → Z (ap9 F n' v)) (fB : ∀ v, B' v → B (ap9 F n' v)) (on : ∀ z, Z z → ∃ z', Z' z' ∧ B (fun i => z i - ap9 F n' z' i)) (one : ∀ z', Z' z' → B (ap9 F n' z') → B' z') : dm9 p n Z + dm9 p n' B' = dm9 p n' Z' + dm9 p n B := by
  obtain ⟨zs, z1, z2⟩ := sub_ex hi hZ'
  obtain ⟨bs, b1, b2⟩ := sub_ex hi hB
  obtain ⟨cs', c1, c2⟩ := sub_ex hi hB'
  have e1 : dm9 p n B = rk9 p n bs := dm_rk hp hi hB b1 b2
  have e2 : dm9 p n' B' = rk9 p n' cs' := dm_rk hp hi hB' c1 c2
  have e3 : dm9 p n' Z' = rk9 p n' (zs ++ cs') := dm_rk hp hi hZ' (fun v hv => (List.mem_append.mp hv).elim (z1 v) (fun h => bZ' v (c1 v h))) (fun w hw => sp_tr (z2 w hw) (fun u hu => sp_in (List.mem_append_left _ hu)))
  have e4 : dm9 p n Z = rk9 p n (zs.map (ap9 F n') ++ bs) := dm_rk hp hi hZ (fun v hv => by
    rcases List.mem_append.mp hv with h | h
    · obtain ⟨z, h1, rfl⟩ := List.mem_map.mp h
      exact fZ z (z1 z h1)
    · exact bZ v (b1 v h)) (fun w hw => by
    obtain ⟨z', h1, h2⟩ := on w hw
    obtain ⟨as, ha⟩ := z2 z' h1
    refine sp_app.mpr ⟨as, _, b2 _ h2, fun i hi9 => ?_⟩
    have h3 := ap_q (d := F) ha i hi9
    rw [lc_ap] at h3
    have := h3
    show p ∣ w i - (lc9 as (zs.map (ap9 F n')) i + (w i - ap9 F n' z' i))
    rw [show w i - (lc9 as (zs.map (ap9 F n')) i + (w i - ap9 F n' z' i)) = ap9 F n' z' i - lc9 as (zs.map (ap9 F n')) i by omega]
    exact this)
  rw [e1, e2, e3, e4]
  -- step by step
  have key : ∀ zs : List vc9, (∀ z, z ∈ zs → Z' z) → rk9 p n (zs.map (ap9 F n') ++ bs) + rk9 p n' cs' = rk9 p n' (zs ++ cs') + rk9 p n bs := by
    intro zs
    induction zs with
    | nil =>
      intro _
      show rk9 p n bs + rk9 p n' cs' = rk9 p n' cs' + rk9 p n bs
      omega
    | cons z zs ih =>
      intro hz
      have ih9 := ih (fun t ht => hz t (List.mem_cons_of_mem _ ht))
      have hzs : ∀ t, t ∈ zs → Z' t := fun t ht => hz t (List.mem_cons_of_mem _ ht)
      have ifc9 : sp9 p n (zs.map (ap9 F n') ++ bs) (ap9 F n' z) ↔ sp9 p n' (zs ++ cs') z := by
        constructor
        · intro h
          obtain ⟨as, b, h1, h2⟩ := sp_app.mp h
          have hB9 : B b := sub_in hB b1 h1
          -- z - lc as zs
          have h3 : Z' (fun i => z i + (-1) * lc9 as zs i) := hZ'.2.1 _ _ (hz z List.mem_cons_self) (hZ'.2.2.1 _ _ (sub_lc hZ' as zs hzs))
          have h4 : B (ap9 F n' (fun i => z i + (-1) * lc9 as zs i)) := hB.2.2.2 _ _ (fun i hi9 => by
            rw [ap_add, ap_mul, lc_ap]
            have := h2 i hi9
            rw [show ap9 F n' z i + -1 * lc9 as (zs.map (ap9 F n')) i - b i = ap9 F n' z i - (lc9 as (zs.map (ap9 F n')) i + b i) by omega]
            exact this) hB9
          refine sp_app.mpr ⟨as, _, c2 _ (one _ h3 h4), fun i _ => ?_⟩
          show p ∣ z i - (lc9 as zs i + (z i + -1 * lc9 as zs i))
          rw [show z i - (lc9 as zs i + (z i + -1 * lc9 as zs i)) = 0 by omega]
          exact Int.dvd_zero p
        · intro h
          obtain ⟨as, b, h1, h2⟩ := sp_app.mp h
          have hB9 : B' b := sub_in hB' c1 h1
          refine sp_app.mpr ⟨as, ap9 F n' b, b2 _ (fB b hB9), fun i hi9 => ?_⟩
          have := ap_q (d := F) h2 i hi9
          rw [ap_add, lc_ap] at this
          exact this
      show rk9 p n (ap9 F n' z :: (zs.map (ap9 F n') ++ bs)) + rk9 p n' cs' = rk9 p n' (z :: (zs ++ cs')) + rk9 p n bs
      by_cases c : sp9 p n' (zs ++ cs') z
      · rw [rk_y (ifc9.mpr c), rk_y c]
        exact ih9
      · rw [rk_n (fun h9 => c (ifc9.mp h9)), rk_n c]
        omega
  exact key zs z1
end XCH4
end
section
/-! 99zzzzzzzzzzzzzzzzye.xch3 -/
/-! chain: sums of generators; the cube of states -/
noncomputable def dcb (P : Prop) : Bool := @decide P (Classical.propDecidable P)
theorem dcb_t {P : Prop} : dcb P = true ↔ P := ⟨fun h => @of_decide_eq_true P (Classical.propDecidable P) h, fun h => @decide_eq_true P (Classical.propDecidable P) h⟩
theorem dcb_f {P : Prop} : dcb P = false ↔ ¬ P := ⟨fun h h9 => Bool.noConfusion ((dcb_t.mpr h9).symm.trans h), fun h => @decide_eq_false P (Classical.propDecidable P) h⟩
theorem dcb_c {P Q : Prop} (h : P ↔ Q) : dcb P = dcb Q := by
  by_cases c : P
  · rw [dcb_t.mpr c, dcb_t.mpr (h.mp c)]
  · rw [dcb_f.mpr c, dcb_f.mpr (fun h9 => c (h.mpr h9))]
/-- a generator: a state, and the gaps of the loops with minus -/
abbrev gn9 : Type := (Nat → Bool) × (Nat → Bool)
abbrev fc9 : Type := List (Int × gn9)
def smf9 (φ : gn9 → Int) : fc9 → Int
  | [] => 0
  | q :: l => q.1 * φ q.2 + smf9 φ l
noncomputable def id9 (γ δ : gn9) : Int := if dcb (δ = γ) = true then 1 else 0
noncomputable def cf9 (l : fc9) (γ : gn9) : Int := smf9 (id9 γ) l
def eq9 (l l' : fc9) : Prop := ∀ γ, cf9 l γ = cf9 l' γ
def scf9 (c : Int) (l : fc9) : fc9 := l.map (fun q => (c * q.1, q.2))
def bd9 (f : gn9 → fc9) : fc9 → fc9
  | [] => []
  | q :: l => scf9 q.1 (f q.2) ++ bd9 f l
section XCH5
variable {φ ψ : gn9 → Int} {l l' k k' : fc9} {f : gn9 → fc9}
theorem sm_a : ∀ {l l' : fc9}, smf9 φ (l ++ l') = smf9 φ l + smf9 φ l'
  | [], l' => by
    show smf9 φ l' = 0 + smf9 φ l'
    omega
  | q :: l, l' => by
    show q.1 * φ q.2 + smf9 φ (l ++ l') = q.1 * φ q.2 + smf9 φ l + smf9 φ l'
    rw [sm_a]
    omega
theorem sm_sc (c : Int) : ∀ {l : fc9}, smf9 φ (scf9 c l) = c * smf9 φ l
  | [] => (Int.mul_zero c).symm
  | q :: l => by
    show c * q.1 * φ q.2 + smf9 φ (scf9 c l) = c * (q.1 * φ q.2 + smf9 φ l)
    rw [sm_sc c, Int.mul_add, Int.mul_assoc]
theorem sm_bd : ∀ {l : fc9}, smf9 φ (bd9 f l) = smf9 (fun γ => smf9 φ (f γ)) l
  | [] => rfl
  | q :: l => by
    show smf9 φ (scf9 q.1 (f q.2) ++ bd9 f l) = q.1 * smf9 φ (f q.2) + smf9 (fun γ => smf9 φ (f γ)) l
    rw [sm_a, sm_sc, sm_bd]
theorem id_y (γ : gn9) : id9 γ γ = 1 := if_pos (dcb_t.mpr rfl)
theorem id_n {γ δ : gn9} (h : δ ≠ γ) : id9 γ δ = 0 := if_neg (fun h9 => h (dcb_t.mp h9))
/-- the rest without γ -/
noncomputable def wo9 (γ : gn9) : fc9 → fc9
  | [] => []
  | q :: l => if dcb (q.2 = γ) = true then wo9 γ l else q :: wo9 γ l
theorem wo_l (γ : gn9) : ∀ l : fc9, (wo9 γ l).length ≤ l.length
  | [] => Nat.le_refl 0
  | q :: l => by
    have ih := wo_l γ l
    show (if dcb (q.2 = γ) = true then wo9 γ l else q :: wo9 γ l).length ≤ l.length + 1
    split
    · omega
    · rw [List.length_cons]
      omega
theorem wo_s (γ : gn9) : ∀ l : fc9, smf9 φ l = φ γ * cf9 l γ + smf9 φ (wo9 γ l)
  | [] => by
    show (0 : Int) = φ γ * 0 + 0
    rw [Int.mul_zero]
    rfl
  | q :: l => by
    have ih := wo_s γ l
    show q.1 * φ q.2 + smf9 φ l = φ γ * (q.1 * id9 γ q.2 + cf9 l γ) + smf9 φ (if dcb (q.2 = γ) = true then wo9 γ l else q :: wo9 γ l)
    by_cases c : q.2 = γ
    · rw [if_pos (dcb_t.mpr c), c, id_y, Int.mul_one, Int.mul_add, ih, Int.mul_comm (φ γ) q.1]
      omega
    · rw [if_neg (fun h9 => c (dcb_t.mp h9)), id_n c, Int.mul_zero, Int.zero_add, ih]
      show _ = _ + (q.1 * φ q.2 + smf9 φ (wo9 γ l))
      omega
theorem wo_c {γ δ : gn9} (l : fc9) : cf9 (wo9 γ l) δ = if dcb (δ = γ) = true then 0 else cf9 l δ := by
  have h := wo_s (φ := id9 δ) γ l
  by_cases c : δ = γ
  · rw [if_pos (dcb_t.mpr c)]
    rw [← c, id_y, Int.one_mul] at h
    rw [← c]
    have h : cf9 l δ = cf9 l δ + cf9 (wo9 δ l) δ := h
    omega
  · rw [if_neg (fun h9 => c (dcb_t.mp h9))]
    rw [id_n (fun h9 => c h9.symm), Int.zero_mul, Int.zero_add] at h
    exact h.symm
theorem sm_0 : ∀ (n : Nat) (l : fc9), l.length ≤ n → (∀ γ, cf9 l γ = 0) → smf9 φ l = 0
  | _, [], _, _ => rfl
  | 0, q :: l, h, _ => absurd h (by rw [List.length_cons]; omega)
  | n + 1, q :: l, h, hz => by
    rw [wo_s (φ := φ) q.2 (q :: l), hz, Int.mul_zero, Int.zero_add]
    refine sm_0 n _ ?_ (fun γ => ?_)
    · have h1 := wo_l q.2 l
      show (if dcb (q.2 = q.2) = true then wo9 q.2 l else q :: wo9 q.2 l).length ≤ n
      rw [if_pos (dcb_t.mpr rfl)]
      rw [List.length_cons] at h
      omega
    · rw [wo_c, hz]
      split
      · rfl
      · rfl
theorem sm_q (h : eq9 l l') : smf9 φ l = smf9 φ l' := by
  have h1 := sm_0 (φ := φ) _ (l ++ scf9 (-1) l') (Nat.le_refl _) (fun γ => by
    show smf9 (id9 γ) (l ++ scf9 (-1) l') = 0
    rw [sm_a, sm_sc]
    have h2 : smf9 (id9 γ) l = smf9 (id9 γ) l' := h γ
    rw [h2]
    omega)
  rw [sm_a, sm_sc] at h1
  omega
theorem cf_a (γ : gn9) : cf9 (l ++ l') γ = cf9 l γ + cf9 l' γ := sm_a
theorem cf_sc (c : Int) (γ : gn9) : cf9 (scf9 c l) γ = c * cf9 l γ := sm_sc c
theorem eq_r : eq9 l l := fun _ => rfl
theorem eq_s (h : eq9 l l') : eq9 l' l := fun γ => (h γ).symm
theorem eq_t (h : eq9 l l') (h2 : eq9 l' k) : eq9 l k := fun γ => (h γ).trans (h2 γ)
theorem eq_a (h : eq9 l l') (h2 : eq9 k k') : eq9 (l ++ k) (l' ++ k') := fun γ => by rw [cf_a, cf_a, h γ, h2 γ]
theorem eq_cm : eq9 (l ++ k) (k ++ l) := fun γ => by rw [cf_a, cf_a]; omega
theorem bd_q (h : eq9 l l') : eq9 (bd9 f l) (bd9 f l') := fun γ => by
  show smf9 (id9 γ) (bd9 f l) = smf9 (id9 γ) (bd9 f l')
  rw [sm_bd, sm_bd]
  exact sm_q h
theorem bd_a (h : bd9 f (l ++ k) = bd9 f (l ++ k)) : eq9 (bd9 f (l ++ k)) (bd9 f l ++ bd9 f k) := fun γ => by
  rw [cf_a]
  show smf9 (id9 γ) (bd9 f (l ++ k)) = smf9 (id9 γ) (bd9 f l) + smf9 (id9 γ) (bd9 f k)
  rw [sm_bd, sm_bd, sm_bd, sm_a]
theorem bd_1 (γ : gn9) : eq9 (bd9 f [(1, γ)]) (f γ) := fun δ => by
  show smf9 (id9 δ) (bd9 f [(1, γ)]) = smf9 (id9 δ) (f γ)
  rw [sm_bd]
  show 1 * smf9 (id9 δ) (f γ) + 0 = _
  omega
end XCH5
/-- two classes made one -/
def adr (R : Nat → Nat → Prop) (a b g h : Nat) : Prop := R g h ∨ R g a ∧ R h b ∨ R g b ∧ R h a
def on9 (s : Nat → Bool) (x : Nat) : Nat → Bool := fun y => if y = x then true else s y
def eqv9 (R : Nat → Nat → Prop) : Prop := (∀ g, R g g) ∧ (∀ g h, R g h → R h g) ∧ ∀ g h k, R g h → R h k → R g k
section XCH6
variable {R Q : Nat → Nat → Prop} {a b c d g h : Nat}
theorem adr_ab (hR : eqv9 R) : adr R a b a b := Or.inr (Or.inl ⟨hR.1 a, hR.1 b⟩)
/-- nothing lies between a relation and the one with two classes made one -/
theorem adr_bt (hR : eqv9 R) (hQ : eqv9 Q) (h1 : ∀ g h, R g h → Q g h) (h2 : ∀ g h, Q g h → adr R a b g h) (hc : Q c d) (hn : ¬ R c d) : ∀ g h, adr R a b g h → Q g h := by
  have hab : Q a b := by
    rcases h2 c d hc with h9 | ⟨h8, h9⟩ | ⟨h8, h9⟩
    · exact absurd h9 hn
    · exact hQ.2.2 _ _ _ (hQ.2.1 _ _ (h1 _ _ h8)) (hQ.2.2 _ _ _ hc (h1 _ _ h9))
    · exact hQ.2.2 _ _ _ (hQ.2.1 _ _ (h1 _ _ h9)) (hQ.2.2 _ _ _ (hQ.2.1 _ _ hc) (h1 _ _ h8))
  intro g h h9
  rcases h9 with h9 | ⟨h8, h9⟩ | ⟨h8, h9⟩
  · exact h1 _ _ h9
  · exact hQ.2.2 _ _ _ (h1 _ _ h8) (hQ.2.2 _ _ _ hab (hQ.2.1 _ _ (h1 _ _ h9)))
  · exact hQ.2.2 _ _ _ (h1 _ _ h8) (hQ.2.2 _ _ _ (hQ.2.1 _ _ hab) (hQ.2.1 _ _ (h1 _ _ h9)))
end XCH6
/-- a cube of partitions of the gaps -/
def cub9 (n : Nat) (P1 P2 P3 : Nat → Nat) (rel : (Nat → Bool) → Nat → Nat → Prop) : Prop := (∀ s, eqv9 (rel s)) ∧ ∀ s x, x < n → s x = false → (¬ rel s (P1 x) (P3 x) ∧ ∀ g h, rel (on9 s x) g h ↔ adr (rel s) (P1 x) (P3 x) g h) ∨ (rel s (P1 x) (P3 x) ∧ ¬ rel (on9 s x) (P1 x) (P2 x) ∧ ∀ g h, rel s g h ↔ adr (rel (on9 s x)) (P1 x) (P2 x) g h)
noncomputable def inm9 (rel : (Nat → Bool) → Nat → Nat → Prop) (s : Nat → Bool) (T : List Nat) : Nat → Bool := fun g => dcb (∃ h, h ∈ T ∧ rel s g h)
def fe9 (rel : (Nat → Bool) → Nat → Nat → Prop) (s : Nat → Bool) (T : List Nat) : Prop := T.Pairwise (fun g h => ¬ rel s g h)
noncomputable def mo9 (rel : (Nat → Bool) → Nat → Nat → Prop) (s : Nat → Bool) (T : List Nat) : fc9 := if dcb (fe9 rel s T) = true then [(1, (s, inm9 rel s T))] else []
/-- one crossing turned, on a generator -/
noncomputable def Dx9 (P1 P2 P3 : Nat → Nat) (rel : (Nat → Bool) → Nat → Nat → Prop) (x : Nat) (γ : gn9) : fc9 := if dcb (rel γ.1 (P1 x) (P3 x)) = true then (if γ.2 (P1 x) = true then [(1, (on9 γ.1 x, γ.2))] else [(1, (on9 γ.1 x, fun g => γ.2 g || dcb (rel (on9 γ.1 x) g (P1 x)))), (1, (on9 γ.1 x, fun g => γ.2 g || dcb (rel (on9 γ.1 x) g (P2 x))))]) else (if γ.2 (P1 x) = true ∧ γ.2 (P3 x) = true then [] else [(1, (on9 γ.1 x, fun g => γ.2 g || ((γ.2 (P1 x) || γ.2 (P3 x)) && dcb (rel (on9 γ.1 x) g (P1 x)))))])
noncomputable def mx9 (P1 P2 P3 : Nat → Nat) (rel : (Nat → Bool) → Nat → Nat → Prop) (x : Nat) (s : Nat → Bool) (T : List Nat) : fc9 := if dcb (rel s (P1 x) (P3 x)) = true then mo9 rel (on9 s x) (P1 x :: T) ++ mo9 rel (on9 s x) (P2 x :: T) else mo9 rel (on9 s x) T
section XCH7
variable {n x : Nat} {P1 P2 P3 : Nat → Nat} {rel : (Nat → Bool) → Nat → Nat → Prop} {s : Nat → Bool} {T : List Nat}
theorem mo_y (h : fe9 rel s T) : mo9 rel s T = [(1, (s, inm9 rel s T))] := if_pos (dcb_t.mpr h)
theorem mo_n9 (h : ¬ fe9 rel s T) : mo9 rel s T = [] := if_neg (fun h9 => h (dcb_t.mp h9))
theorem in_t {g : Nat} : inm9 rel s T g = true ↔ ∃ h, h ∈ T ∧ rel s g h := dcb_t
theorem bx {a b : Bool} (h : a = true ↔ b = true) : a = b := by
  cases a <;> cases b <;> simp at h <;> rfl
theorem fe_sub {s t : Nat → Bool} (h : ∀ g k, rel t g k → rel s g k) (hf : fe9 rel s T) : fe9 rel t T := List.Pairwise.imp (fun {a b} h1 h2 => h1 (h a b h2)) hf
/-- one of two in one class -/
theorem fe_one (hE : eqv9 (rel s)) : ∀ {T : List Nat} {g h : Nat}, fe9 rel s T → g ∈ T → h ∈ T → rel s g h → g = h
  | [], g, h, _, hg, _, _ => absurd hg List.not_mem_nil
  | t :: T, g, h, hf, hg, hh, hr => by
    obtain ⟨f1, f2⟩ := List.pairwise_cons.mp hf
    rcases List.mem_cons.mp hg with e | e
    · rcases List.mem_cons.mp hh with e9 | e9
      · rw [e, e9]
      · rw [e] at hr
        exact absurd hr (f1 h e9)
    · rcases List.mem_cons.mp hh with e9 | e9
      · rw [e9] at hr
        exact absurd (hE.2.1 _ _ hr) (f1 g e)
      · exact fe_one hE f2 e e9 hr
theorem dx_mo (hC : cub9 n P1 P2 P3 rel) (hx : x < n) (hs : s x = false) (T : List Nat) : eq9 (bd9 (Dx9 P1 P2 P3 rel x) (mo9 rel s T)) (mx9 P1 P2 P3 rel x s T) := by
  have hE := hC.1 s
  have hF := hC.1 (on9 s x)
  rcases hC.2 s x hx hs with ⟨hm, hr⟩ | ⟨hm, hn, hr⟩
  · -- two loops become one
    have e1 : mx9 P1 P2 P3 rel x s T = mo9 rel (on9 s x) T := if_neg (fun h9 => hm (dcb_t.mp h9))
    rw [e1]
    by_cases hf : fe9 rel s T
    · rw [mo_y hf]
      refine eq_t (bd_1 _) ?_
      have e2 : Dx9 P1 P2 P3 rel x (s, inm9 rel s T) = (if inm9 rel s T (P1 x) = true ∧ inm9 rel s T (P3 x) = true then [] else [(1, (on9 s x, fun g => inm9 rel s T g || ((inm9 rel s T (P1 x) || inm9 rel s T (P3 x)) && dcb (rel (on9 s x) g (P1 x)))))]) := if_neg (fun h9 => hm (dcb_t.mp h9))
      rw [e2]
      by_cases c : inm9 rel s T (P1 x) = true ∧ inm9 rel s T (P3 x) = true
      · rw [if_pos c]
        obtain ⟨h1, t1, r1⟩ := in_t.mp c.1
        obtain ⟨h3, t3, r3⟩ := in_t.mp c.2
        rw [mo_n9 (fun h9 => ?_)]
        · exact eq_r
        · have e9 := fe_one hF h9 t1 t3 ((hr _ _).mpr (Or.inr (Or.inl ⟨hE.2.1 _ _ r1, hE.2.1 _ _ r3⟩)))
          rw [← e9] at r3
          exact hm (hE.2.2 _ _ _ r1 (hE.2.1 _ _ r3))
      · rw [if_neg c]
        have hft : fe9 rel (on9 s x) T := by
          refine List.Pairwise.imp_of_mem (fun {a b} ha hb h1 h2 => ?_) hf
          rcases (hr a b).mp h2 with h3 | ⟨h3, h4⟩ | ⟨h3, h4⟩
          · exact h1 h3
          · exact c ⟨in_t.mpr ⟨a, ha, hE.2.1 _ _ h3⟩, in_t.mpr ⟨b, hb, hE.2.1 _ _ h4⟩⟩
          · exact c ⟨in_t.mpr ⟨b, hb, hE.2.1 _ _ h4⟩, in_t.mpr ⟨a, ha, hE.2.1 _ _ h3⟩⟩
        rw [mo_y hft]
        have e3 : (fun g => inm9 rel s T g || ((inm9 rel s T (P1 x) || inm9 rel s T (P3 x)) && dcb (rel (on9 s x) g (P1 x)))) = inm9 rel (on9 s x) T := funext (fun g => bx (by
          rw [in_t, Bool.or_eq_true, Bool.and_eq_true, Bool.or_eq_true, in_t, in_t, in_t, dcb_t]
          have p13 : rel (on9 s x) (P1 x) (P3 x) := (hr _ _).mpr (adr_ab hE)
          constructor
          · rintro (⟨h, t, r⟩ | ⟨⟨h, t, r⟩ | ⟨h, t, r⟩, q⟩)
            · exact ⟨h, t, (hr _ _).mpr (Or.inl r)⟩
            · exact ⟨h, t, hF.2.2 _ _ _ q ((hr _ _).mpr (Or.inl r))⟩
            · exact ⟨h, t, hF.2.2 _ _ _ q (hF.2.2 _ _ _ p13 ((hr _ _).mpr (Or.inl r)))⟩
          · rintro ⟨h, t, r⟩
            rcases (hr g h).mp r with h3 | ⟨h3, h4⟩ | ⟨h3, h4⟩
            · exact Or.inl ⟨h, t, h3⟩
            · exact Or.inr ⟨Or.inr ⟨h, t, hE.2.1 _ _ h4⟩, (hr _ _).mpr (Or.inl h3)⟩
            · exact Or.inr ⟨Or.inl ⟨h, t, hE.2.1 _ _ h4⟩, hF.2.2 _ _ _ ((hr _ _).mpr (Or.inl h3)) (hF.2.1 _ _ p13)⟩))
        rw [e3]
        exact eq_r
    · rw [mo_n9 hf, mo_n9 (fun h9 => hf (fe_sub (fun g k h8 => (hr g k).mpr (Or.inl h8)) h9))]
      exact eq_r
  · -- one loop becomes two
    have e1 : mx9 P1 P2 P3 rel x s T = mo9 rel (on9 s x) (P1 x :: T) ++ mo9 rel (on9 s x) (P2 x :: T) := if_pos (dcb_t.mpr hm)
    have up : ∀ g k, rel (on9 s x) g k → rel s g k := fun g k h9 => (hr g k).mpr (Or.inl h9)
    have p12 : rel s (P1 x) (P2 x) := (hr _ _).mpr (adr_ab hF)
    rw [e1]
    -- who is in the loop that is split
    have side : ∀ g, rel s g (P1 x) → rel (on9 s x) g (P1 x) ∨ rel (on9 s x) g (P2 x) := fun g h9 => by
      rcases (hr _ _).mp h9 with h3 | ⟨h3, h4⟩ | ⟨h3, h4⟩
      · exact Or.inl h3
      · exact Or.inl h3
      · exact Or.inr h3
    by_cases hf : fe9 rel s T
    · have hft : fe9 rel (on9 s x) T := fe_sub up hf
      rw [mo_y hf]
      refine eq_t (bd_1 _) ?_
      have e2 : Dx9 P1 P2 P3 rel x (s, inm9 rel s T) = (if inm9 rel s T (P1 x) = true then [(1, (on9 s x, inm9 rel s T))] else [(1, (on9 s x, fun g => inm9 rel s T g || dcb (rel (on9 s x) g (P1 x)))), (1, (on9 s x, fun g => inm9 rel s T g || dcb (rel (on9 s x) g (P2 x))))]) := if_pos (dcb_t.mpr hm)
      rw [e2]
      by_cases c : inm9 rel s T (P1 x) = true
      · rw [if_pos c]
        obtain ⟨h0, t0, r0⟩ := in_t.mp c
        -- with a: the end that h0 lies at, b: the other
        have one : ∀ a b, (a = P1 x ∧ b = P2 x ∨ a = P2 x ∧ b = P1 x) → rel (on9 s x) h0 a → mo9 rel (on9 s x) (a :: T) = [] ∧ mo9 rel (on9 s x) (b :: T) = [(1, (on9 s x, inm9 rel s T))] := fun a b hab h9 => by
          have nab : ¬ rel (on9 s x) a b := by
            rcases hab with ⟨e, e'⟩ | ⟨e, e'⟩
            · rw [e, e']
              exact hn
            · rw [e, e']
              exact fun h8 => hn (hF.2.1 _ _ h8)
          have ra : rel s a (P1 x) := by
            rcases hab with ⟨e, -⟩ | ⟨e, -⟩
            · rw [e]
              exact hE.1 _
            · rw [e]
              exact hE.2.1 _ _ p12
          have rb : rel s b (P1 x) := by
            rcases hab with ⟨-, e⟩ | ⟨-, e⟩
            · rw [e]
              exact hE.2.1 _ _ p12
            · rw [e]
              exact hE.1 _
          have sd : ∀ g, rel s g (P1 x) → rel (on9 s x) g a ∨ rel (on9 s x) g b := fun g h8 => by
            rcases hab with ⟨e, e'⟩ | ⟨e, e'⟩
            · rw [e, e']
              exact side g h8
            · rw [e, e']
              exact (side g h8).symm
          have fb : fe9 rel (on9 s x) (b :: T) := List.pairwise_cons.mpr ⟨fun h hh h8 => by
            have h7 : h = h0 := fe_one hE hf hh t0 (hE.2.2 _ _ _ (up _ _ (hF.2.1 _ _ h8)) (hE.2.2 _ _ _ rb r0))
            rw [h7] at h8
            exact nab (hF.2.1 _ _ (hF.2.2 _ _ _ h8 h9)), hft⟩
          refine ⟨mo_n9 (fun h8 => (List.pairwise_cons.mp h8).1 h0 t0 (hF.2.1 _ _ h9)), ?_⟩
          rw [mo_y fb]
          have e3 : inm9 rel (on9 s x) (b :: T) = inm9 rel s T := funext (fun g => bx (by
            rw [in_t, in_t]
            constructor
            · rintro ⟨h, t, r⟩
              rcases List.mem_cons.mp t with e | e
              · rw [e] at r
                exact ⟨h0, t0, hE.2.2 _ _ _ (up _ _ r) (hE.2.2 _ _ _ rb r0)⟩
              · exact ⟨h, e, up _ _ r⟩
            · rintro ⟨h, t, r⟩
              by_cases ga : rel s g (P1 x)
              · rcases sd g ga with h7 | h7
                · exact ⟨h0, List.mem_cons_of_mem _ t0, hF.2.2 _ _ _ h7 (hF.2.1 _ _ h9)⟩
                · exact ⟨b, List.mem_cons_self, h7⟩
              · rcases (hr g h).mp r with h3 | ⟨h3, h4⟩ | ⟨h3, h4⟩
                · exact ⟨h, List.mem_cons_of_mem _ t, h3⟩
                · exact absurd (up _ _ h3) ga
                · exact absurd (hE.2.2 _ _ _ (up _ _ h3) (hE.2.1 _ _ p12)) ga))
          rw [e3]
        rcases side h0 (hE.2.1 _ _ r0) with h9 | h9
        · obtain ⟨q1, q2⟩ := one (P1 x) (P2 x) (Or.inl ⟨rfl, rfl⟩) h9
          rw [q1, q2]
          exact eq_r
        · obtain ⟨q1, q2⟩ := one (P2 x) (P1 x) (Or.inr ⟨rfl, rfl⟩) h9
          rw [q1, q2, List.append_nil]
          exact eq_r
      · rw [if_neg c]
        have cn : ¬ ∃ h, h ∈ T ∧ rel s (P1 x) h := fun h9 => c (in_t.mpr h9)
        have one : ∀ a, rel s a (P1 x) → mo9 rel (on9 s x) (a :: T) = [(1, (on9 s x, fun g => inm9 rel s T g || dcb (rel (on9 s x) g a)))] := fun a ha => by
          have fa : fe9 rel (on9 s x) (a :: T) := List.pairwise_cons.mpr ⟨fun h hh h8 => cn ⟨h, hh, hE.2.2 _ _ _ (hE.2.1 _ _ ha) (up _ _ h8)⟩, hft⟩
          rw [mo_y fa]
          have e3 : inm9 rel (on9 s x) (a :: T) = fun g => inm9 rel s T g || dcb (rel (on9 s x) g a) := funext (fun g => bx (by
            rw [in_t, Bool.or_eq_true, in_t, dcb_t]
            constructor
            · rintro ⟨h, t, r⟩
              rcases List.mem_cons.mp t with e | e
              · rw [e] at r
                exact Or.inr r
              · exact Or.inl ⟨h, e, up _ _ r⟩
            · rintro (⟨h, t, r⟩ | r)
              · rcases (hr g h).mp r with h3 | ⟨h3, h4⟩ | ⟨h3, h4⟩
                · exact ⟨h, List.mem_cons_of_mem _ t, h3⟩
                · exact absurd ⟨h, t, hE.2.2 _ _ _ p12 (hE.2.1 _ _ (up _ _ h4))⟩ cn
                · exact absurd ⟨h, t, hE.2.1 _ _ (up _ _ h4)⟩ cn
              · exact ⟨a, List.mem_cons_self, r⟩))
          rw [e3]
        rw [one (P1 x) (hE.1 _), one (P2 x) (hE.2.1 _ _ p12)]
        exact eq_r
    · have z : ∀ a b, (a = P1 x ∧ b = P2 x ∨ a = P2 x ∧ b = P1 x) → ¬ fe9 rel (on9 s x) (a :: T) := fun a b hab h9 => by
        obtain ⟨f1, f2⟩ := List.pairwise_cons.mp h9
        refine hf (List.Pairwise.imp_of_mem (fun {g h} hg hh h1 h2 => ?_) f2)
        rcases (hr g h).mp h2 with h3 | ⟨h3, h4⟩ | ⟨h3, h4⟩
        · exact h1 h3
        · rcases hab with ⟨e, -⟩ | ⟨e, -⟩
          · exact f1 g hg (by rw [e]; exact hF.2.1 _ _ h3)
          · exact f1 h hh (by rw [e]; exact hF.2.1 _ _ h4)
        · rcases hab with ⟨e, -⟩ | ⟨e, -⟩
          · exact f1 h hh (by rw [e]; exact hF.2.1 _ _ h4)
          · exact f1 g hg (by rw [e]; exact hF.2.1 _ _ h3)
      rw [mo_n9 hf, mo_n9 (z (P1 x) (P2 x) (Or.inl ⟨rfl, rfl⟩)), mo_n9 (z (P2 x) (P1 x) (Or.inr ⟨rfl, rfl⟩))]
      exact eq_r
end XCH7
end
section
/-! 99zzzzzzzzzzzzzzzzyf.xch4 -/
/-! chain: D of D is 0 -/
def par9 (s : Nat → Bool) : Nat → Int
  | 0 => 1
  | x + 1 => if s x = true then -par9 s x else par9 s x
def sN9 (f : Nat → Int) : Nat → Int
  | 0 => 0
  | n + 1 => sN9 f n + f n
noncomputable def D9 (P1 P2 P3 : Nat → Nat) (rel : (Nat → Bool) → Nat → Nat → Prop) : Nat → gn9 → fc9
  | 0, _ => []
  | n + 1, γ => D9 P1 P2 P3 rel n γ ++ (if γ.1 n = true then [] else scf9 (par9 γ.1 n) (Dx9 P1 P2 P3 rel n γ))
noncomputable def mD9 (P1 P2 P3 : Nat → Nat) (rel : (Nat → Bool) → Nat → Nat → Prop) : Nat → (Nat → Bool) → List Nat → fc9
  | 0, _, _ => []
  | n + 1, s, T => mD9 P1 P2 P3 rel n s T ++ (if s n = true then [] else scf9 (par9 s n) (mx9 P1 P2 P3 rel n s T))
section XCH8
variable {n x y : Nat} {P1 P2 P3 : Nat → Nat} {rel : (Nat → Bool) → Nat → Nat → Prop} {s : Nat → Bool} {T : List Nat} {φ : gn9 → Int}
theorem sN_cg {f g : Nat → Int} : ∀ {n : Nat}, (∀ i, i < n → f i = g i) → sN9 f n = sN9 g n
  | 0, _ => rfl
  | n + 1, h => by
    show sN9 f n + f n = sN9 g n + g n
    rw [sN_cg (n := n) (fun i hi => h i (by omega)), h n (by omega)]
theorem sN_a {f g : Nat → Int} : ∀ {n : Nat}, sN9 (fun i => f i + g i) n = sN9 f n + sN9 g n
  | 0 => rfl
  | n + 1 => by
    show sN9 (fun i => f i + g i) n + (f n + g n) = sN9 f n + f n + (sN9 g n + g n)
    rw [sN_a]
    omega
theorem sN_0 : ∀ {n : Nat}, sN9 (fun _ => 0) n = 0
  | 0 => rfl
  | n + 1 => by
    show sN9 (fun _ => 0) n + 0 = 0
    rw [sN_0]
    rfl
theorem sN_an {a : Nat → Nat → Int} (h : ∀ x y, a x y = -a y x) : ∀ n, sN9 (fun x => sN9 (fun y => a x y) n) n = 0
  | 0 => rfl
  | n + 1 => by
    have ih := sN_an h n
    show sN9 (fun x => sN9 (fun y => a x y) n + a x n) n + (sN9 (fun y => a n y) n + a n n) = 0
    rw [sN_a, ih]
    have e : sN9 (fun x => a x n) n + sN9 (fun y => a n y) n = 0 := by
      rw [← sN_a]
      have : (fun i => a i n + a n i) = fun _ => (0 : Int) := funext (fun i => by
        have := h i n
        omega)
      rw [this]
      exact sN_0
    have := h n n
    omega
theorem smf_mD (φ : gn9 → Int) : ∀ n, smf9 φ (mD9 P1 P2 P3 rel n s T) = sN9 (fun x => if s x = true then 0 else par9 s x * smf9 φ (mx9 P1 P2 P3 rel x s T)) n
  | 0 => rfl
  | n + 1 => by
    show smf9 φ (mD9 P1 P2 P3 rel n s T ++ (if s n = true then [] else scf9 (par9 s n) (mx9 P1 P2 P3 rel n s T))) = sN9 _ n + (if s n = true then 0 else par9 s n * smf9 φ (mx9 P1 P2 P3 rel n s T))
    rw [sm_a, smf_mD φ n]
    split
    · rfl
    · rw [sm_sc]
theorem on_c (s : Nat → Bool) (x y : Nat) : on9 (on9 s x) y = on9 (on9 s y) x := funext (fun z => by
  unfold on9
  by_cases h1 : z = x
  · by_cases h2 : z = y
    · rw [if_pos h2, if_pos h1]
    · rw [if_neg h2, if_pos h1, if_pos h1]
  · by_cases h2 : z = y
    · rw [if_pos h2, if_neg h1, if_pos h2]
    · rw [if_neg h2, if_neg h1, if_neg h1, if_neg h2])
theorem on_x : on9 s x x = true := if_pos rfl
theorem on_o (h : y ≠ x) : on9 s x y = s y := if_neg h
theorem par_lo : ∀ {y : Nat}, y ≤ x → par9 (on9 s x) y = par9 s y
  | 0, _ => rfl
  | y + 1, h => by
    show (if on9 s x y = true then -par9 (on9 s x) y else par9 (on9 s x) y) = if s y = true then -par9 s y else par9 s y
    rw [on_o (by omega), par_lo (by omega)]
theorem par_hi (hs : s x = false) : ∀ {y : Nat}, x < y → par9 (on9 s x) y = -par9 s y
  | 0, h => absurd h (Nat.not_lt_zero _)
  | y + 1, h => by
    show (if on9 s x y = true then -par9 (on9 s x) y else par9 (on9 s x) y) = -(if s y = true then -par9 s y else par9 s y)
    by_cases e : y = x
    · rw [e, on_x, if_pos rfl, par_lo (Nat.le_refl x), hs, if_neg (by decide)]
    · rw [on_o e, par_hi hs (by omega)]
      split
      · rfl
      · rfl
theorem par_an (hx : s x = false) (hy : s y = false) (h : x ≠ y) : par9 s x * par9 (on9 s x) y = -(par9 s y * par9 (on9 s y) x) := by
  rcases Nat.lt_or_gt_of_ne h with h1 | h1
  · rw [par_hi hx h1, par_lo (Nat.le_of_lt h1), Int.mul_neg, Int.mul_comm]
  · rw [par_lo (Nat.le_of_lt h1), par_hi hy h1, Int.mul_neg, Int.neg_neg, Int.mul_comm]
theorem mo_sw {a b : Nat} (hE : eqv9 (rel s)) : mo9 rel s (a :: b :: T) = mo9 rel s (b :: a :: T) := by
  have e1 : ∀ a b, fe9 rel s (a :: b :: T) → fe9 rel s (b :: a :: T) := fun a b h => by
    obtain ⟨h1, h2⟩ := List.pairwise_cons.mp h
    obtain ⟨h3, h4⟩ := List.pairwise_cons.mp h2
    refine List.pairwise_cons.mpr ⟨fun k hk => ?_, List.pairwise_cons.mpr ⟨fun k hk => h1 k (List.mem_cons_of_mem _ hk), h4⟩⟩
    rcases List.mem_cons.mp hk with e | e
    · rw [e]
      exact fun h9 => h1 b List.mem_cons_self (hE.2.1 _ _ h9)
    · exact h3 k e
  by_cases c : fe9 rel s (a :: b :: T)
  · rw [mo_y c, mo_y (e1 a b c)]
    have : inm9 rel s (a :: b :: T) = inm9 rel s (b :: a :: T) := funext (fun g => bx (by
      rw [in_t, in_t]
      constructor
      · rintro ⟨h, t, r⟩
        refine ⟨h, ?_, r⟩
        rcases List.mem_cons.mp t with e | e
        · rw [e]
          exact List.mem_cons_of_mem _ List.mem_cons_self
        · rcases List.mem_cons.mp e with e | e
          · rw [e]
            exact List.mem_cons_self
          · exact List.mem_cons_of_mem _ (List.mem_cons_of_mem _ e)
      · rintro ⟨h, t, r⟩
        refine ⟨h, ?_, r⟩
        rcases List.mem_cons.mp t with e | e
        · rw [e]
          exact List.mem_cons_of_mem _ List.mem_cons_self
        · rcases List.mem_cons.mp e with e | e
          · rw [e]
            exact List.mem_cons_self
          · exact List.mem_cons_of_mem _ (List.mem_cons_of_mem _ e)))
    rw [this]
  · rw [mo_n9 c, mo_n9 (fun h9 => c (e1 b a h9))]
theorem mo_rp {a b : Nat} (hE : eqv9 (rel s)) (h : rel s a b) : mo9 rel s (a :: T) = mo9 rel s (b :: T) := by
  have e1 : ∀ a b, rel s a b → fe9 rel s (a :: T) → fe9 rel s (b :: T) := fun a b h h9 => by
    obtain ⟨h1, h2⟩ := List.pairwise_cons.mp h9
    exact List.pairwise_cons.mpr ⟨fun k hk h8 => h1 k hk (hE.2.2 _ _ _ h h8), h2⟩
  have e2 : ∀ a b g, rel s a b → (∃ k, k ∈ a :: T ∧ rel s g k) → ∃ k, k ∈ b :: T ∧ rel s g k := fun a b g h ⟨k, t, r⟩ => by
    rcases List.mem_cons.mp t with e | e
    · rw [e] at r
      exact ⟨b, List.mem_cons_self, hE.2.2 _ _ _ r h⟩
    · exact ⟨k, List.mem_cons_of_mem _ e, r⟩
  by_cases c : fe9 rel s (a :: T)
  · rw [mo_y c, mo_y (e1 a b h c)]
    have : inm9 rel s (a :: T) = inm9 rel s (b :: T) := funext (fun g => bx (by
      rw [in_t, in_t]
      exact ⟨e2 a b g h, e2 b a g (hE.2.1 _ _ h)⟩))
    rw [this]
  · rw [mo_n9 c, mo_n9 (fun h9 => c (e1 b a (hE.2.1 _ _ h) h9))]
/-- two crossings turned, x first -/
noncomputable def dd9 (P1 P2 P3 : Nat → Nat) (rel : (Nat → Bool) → Nat → Nat → Prop) (x y : Nat) (s : Nat → Bool) (T : List Nat) : fc9 := if dcb (rel s (P1 x) (P3 x)) = true then mx9 P1 P2 P3 rel y (on9 s x) (P1 x :: T) ++ mx9 P1 P2 P3 rel y (on9 s x) (P2 x :: T) else mx9 P1 P2 P3 rel y (on9 s x) T
/-- how two crossings stand to each other -/
theorem dd_cs (hC : cub9 n P1 P2 P3 rel) (hx : x < n) (hy : y < n) (sx : s x = false) (sy : s y = false) (hne : x ≠ y) : (rel s (P1 x) (P3 x) → ¬ rel (on9 s y) (P1 x) (P3 x) → (rel s (P1 y) (P3 y) ∧ ¬ rel (on9 s x) (P1 y) (P3 y)) ∧ ∀ a b, (a = P1 x ∨ a = P2 x) → (b = P1 y ∨ b = P2 y) → rel (on9 (on9 s x) y) a b) ∧ (¬ rel s (P1 x) (P3 x) → rel (on9 s y) (P1 x) (P3 x) → (¬ rel s (P1 y) (P3 y) ∧ rel (on9 s x) (P1 y) (P3 y)) ∧ (rel (on9 (on9 s x) y) (P1 x) (P1 y) ∧ rel (on9 (on9 s x) y) (P2 x) (P2 y) ∨ rel (on9 (on9 s x) y) (P1 x) (P2 y) ∧ rel (on9 (on9 s x) y) (P2 x) (P1 y))) := by
  have hE := hC.1
  have sxy : on9 s x y = false := by rw [on_o (fun h9 => hne h9.symm)]; exact sy
  have syx : on9 s y x = false := by rw [on_o hne]; exact sx
  have cx := hC.2 s x hx sx
  have cy := hC.2 s y hy sy
  have cxy := hC.2 (on9 s x) y hy sxy
  have cyx := hC.2 (on9 s y) x hx syx
  rw [← on_c s x y] at cyx
  constructor
  · intro hA hB
    obtain ⟨-, x2, x3⟩ := cx.resolve_left (fun h9 => h9.1 hA)
    -- y parts s
    have hA' : rel s (P1 y) (P3 y) := by
      rcases cy with ⟨h1, h2⟩ | ⟨h1, -⟩
      · exact absurd ((h2 _ _).mpr (Or.inl hA)) hB
      · exact h1
    obtain ⟨-, y2, y3⟩ := cy.resolve_left (fun h9 => h9.1 hA')
    obtain ⟨-, u3⟩ := cyx.resolve_right (fun h9 => hB h9.1)
    have hBq : ¬ rel (on9 s x) (P1 y) (P3 y) := fun h9 => by
      obtain ⟨-, v2, v3⟩ := cxy.resolve_left (fun h8 => h8.1 h9)
      -- rel u lies between rel (s y) and rel s
      have q := adr_bt (hE (on9 s y)) (hE (on9 (on9 s x) y)) (fun g h h8 => (u3 g h).mpr (Or.inl h8)) (fun g h h8 => (y3 g h).mp ((x3 g h).mpr (Or.inl ((v3 g h).mpr (Or.inl h8))))) ((u3 _ _).mpr (adr_ab (hE (on9 s y)))) hB
      exact v2 (q _ _ ((y3 _ _).mp ((x3 _ _).mpr (Or.inl ((v3 _ _).mpr (adr_ab (hE _)))))))
    obtain ⟨-, w3⟩ := cxy.resolve_right (fun h9 => hBq h9.1)
    refine ⟨⟨hA', hBq⟩, ?_⟩
    -- u = s
    have us : ∀ g h, rel s g h → rel (on9 (on9 s x) y) g h := fun g h h9 => by
      have q := adr_bt (hE (on9 s x)) (hE s) (fun g h h8 => (x3 g h).mpr (Or.inl h8)) (fun g h h8 => (x3 g h).mp h8) hA' hBq
      have q2 : ∀ g h, adr (rel (on9 s x)) (P1 x) (P2 x) g h → rel (on9 (on9 s x) y) g h := by
        -- P1 x, P2 x are one in u
        have h12 : rel (on9 (on9 s x) y) (P1 x) (P2 x) := by
          have hu := (w3 _ _).mpr (adr_ab (hE (on9 s x)) (a := P1 y) (b := P3 y))
          have up : ∀ g h, rel (on9 s x) g h → rel (on9 (on9 s x) y) g h := fun g h h8 => (w3 g h).mpr (Or.inl h8)
          rcases (x3 _ _).mp hA' with h8 | ⟨h8, h7⟩ | ⟨h8, h7⟩
          · exact absurd h8 hBq
          · exact (hE _).2.2 _ _ _ ((hE _).2.1 _ _ (up _ _ h8)) ((hE _).2.2 _ _ _ hu (up _ _ h7))
          · exact (hE _).2.2 _ _ _ ((hE _).2.1 _ _ (up _ _ h7)) ((hE _).2.2 _ _ _ ((hE _).2.1 _ _ hu) (up _ _ h8))
        intro g h h8
        have up : ∀ g h, rel (on9 s x) g h → rel (on9 (on9 s x) y) g h := fun g h h8 => (w3 g h).mpr (Or.inl h8)
        rcases h8 with h8 | ⟨h8, h7⟩ | ⟨h8, h7⟩
        · exact up _ _ h8
        · exact (hE _).2.2 _ _ _ (up _ _ h8) ((hE _).2.2 _ _ _ h12 ((hE _).2.1 _ _ (up _ _ h7)))
        · exact (hE _).2.2 _ _ _ (up _ _ h8) ((hE _).2.2 _ _ _ ((hE _).2.1 _ _ h12) ((hE _).2.1 _ _ (up _ _ h7)))
      exact q2 g h ((x3 g h).mp h9)
    have sx12 : rel s (P1 x) (P2 x) := (x3 _ _).mpr (adr_ab (hE _))
    have sy12 : rel s (P1 y) (P2 y) := (y3 _ _).mpr (adr_ab (hE _))
    have sxy1 : rel s (P1 x) (P1 y) := by
      rcases (x3 _ _).mp hA' with h8 | ⟨h8, h7⟩ | ⟨h8, h7⟩
      · exact absurd h8 hBq
      · exact (hE s).2.1 _ _ ((x3 _ _).mpr (Or.inl h8))
      · exact (hE s).2.2 _ _ _ sx12 ((hE s).2.1 _ _ ((x3 _ _).mpr (Or.inl h8)))
    intro a b ha hb
    refine us a b ?_
    have a1 : rel s a (P1 x) := by
      rcases ha with e | e
      · rw [e]
        exact (hE s).1 _
      · rw [e]
        exact (hE s).2.1 _ _ sx12
    have b1 : rel s (P1 y) b := by
      rcases hb with e | e
      · rw [e]
        exact (hE s).1 _
      · rw [e]
        exact sy12
    exact (hE s).2.2 _ _ _ a1 ((hE s).2.2 _ _ _ sxy1 b1)
  · intro hA hB
    obtain ⟨-, x3⟩ := cx.resolve_right (fun h9 => hA h9.1)
    have hA' : ¬ rel s (P1 y) (P3 y) := fun h9 => by
      obtain ⟨-, y2, y3⟩ := cy.resolve_left (fun h8 => h8.1 h9)
      exact hA ((y3 _ _).mpr (Or.inl hB))
    obtain ⟨-, y3⟩ := cy.resolve_right (fun h9 => hA' h9.1)
    have eq1 : ∀ g h, rel (on9 s y) g h → rel (on9 s x) g h := fun g h h9 => by
      have q := adr_bt (hE s) (hE (on9 s x)) (a := P1 y) (b := P3 y) (c := P1 x) (d := P3 x) (fun g h h8 => (x3 g h).mpr (Or.inl h8)) (fun g h h8 => ?_) ((x3 _ _).mpr (adr_ab (hE s))) hA
      · exact q g h ((y3 g h).mp h9)
      · -- rel (s x) within rel (s y)
        refine (y3 g h).mp ?_
        rcases (x3 g h).mp h8 with h7 | ⟨h7, h6⟩ | ⟨h7, h6⟩
        · exact (y3 _ _).mpr (Or.inl h7)
        · exact (hE _).2.2 _ _ _ ((y3 _ _).mpr (Or.inl h7)) ((hE _).2.2 _ _ _ hB ((hE _).2.1 _ _ ((y3 _ _).mpr (Or.inl h6))))
        · exact (hE _).2.2 _ _ _ ((y3 _ _).mpr (Or.inl h7)) ((hE _).2.2 _ _ _ ((hE _).2.1 _ _ hB) ((hE _).2.1 _ _ ((y3 _ _).mpr (Or.inl h6))))
    have hBq : rel (on9 s x) (P1 y) (P3 y) := eq1 _ _ ((y3 _ _).mpr (adr_ab (hE s)))
    refine ⟨⟨hA', hBq⟩, ?_⟩
    obtain ⟨-, v2, v3⟩ := cxy.resolve_left (fun h8 => h8.1 hBq)
    obtain ⟨-, w2, w3⟩ := cyx.resolve_left (fun h8 => h8.1 hB)
    have h12 : rel (on9 s x) (P1 x) (P2 x) := eq1 _ _ ((w3 _ _).mpr (adr_ab (hE _)))
    rcases (v3 _ _).mp h12 with h8 | ⟨h8, h7⟩ | ⟨h8, h7⟩
    · exact absurd h8 w2
    · exact Or.inl ⟨h8, h7⟩
    · exact Or.inr ⟨h8, h7⟩
theorem mx_y (h : rel s (P1 x) (P3 x)) : mx9 P1 P2 P3 rel x s T = mo9 rel (on9 s x) (P1 x :: T) ++ mo9 rel (on9 s x) (P2 x :: T) := if_pos (dcb_t.mpr h)
theorem mx_n (h : ¬ rel s (P1 x) (P3 x)) : mx9 P1 P2 P3 rel x s T = mo9 rel (on9 s x) T := if_neg (fun h9 => h (dcb_t.mp h9))
theorem dd_y (h : rel s (P1 x) (P3 x)) : dd9 P1 P2 P3 rel x y s T = mx9 P1 P2 P3 rel y (on9 s x) (P1 x :: T) ++ mx9 P1 P2 P3 rel y (on9 s x) (P2 x :: T) := if_pos (dcb_t.mpr h)
theorem dd_n (h : ¬ rel s (P1 x) (P3 x)) : dd9 P1 P2 P3 rel x y s T = mx9 P1 P2 P3 rel y (on9 s x) T := if_neg (fun h9 => h (dcb_t.mp h9))
theorem dd_sym (hC : cub9 n P1 P2 P3 rel) (hx : x < n) (hy : y < n) (sx : s x = false) (sy : s y = false) (hne : x ≠ y) : eq9 (dd9 P1 P2 P3 rel x y s T) (dd9 P1 P2 P3 rel y x s T) := by
  have hE := hC.1
  have c1 := dd_cs hC hx hy sx sy hne
  have c2 := dd_cs hC hy hx sy sx (fun h9 => hne h9.symm)
  have eu : on9 (on9 s y) x = on9 (on9 s x) y := (on_c s x y).symm
  by_cases hA : rel s (P1 x) (P3 x)
  · by_cases hB' : rel (on9 s y) (P1 x) (P3 x)
    · by_cases hA' : rel s (P1 y) (P3 y)
      · have hB : rel (on9 s x) (P1 y) (P3 y) := by
          apply Classical.byContradiction
          intro h9
          exact (c2.1 hA' h9).1.2 hB'
        rw [dd_y hA, dd_y hA', mx_y hB, mx_y hB, mx_y hB', mx_y hB', eu, mo_sw (hE _) (a := P1 x) (b := P1 y), mo_sw (hE _) (a := P1 x) (b := P2 y), mo_sw (hE _) (a := P2 x) (b := P1 y), mo_sw (hE _) (a := P2 x) (b := P2 y)]
        intro γ
        rw [cf_a, cf_a, cf_a, cf_a, cf_a, cf_a]
        omega
      · have hB : ¬ rel (on9 s x) (P1 y) (P3 y) := fun h9 => (c2.2 hA' h9).1.1 hA
        rw [dd_y hA, dd_n hA', mx_n hB, mx_n hB, mx_y hB', eu]
        exact eq_r
    · obtain ⟨⟨hA', hB⟩, hr⟩ := c1.1 hA hB'
      rw [dd_y hA, dd_y hA', mx_n hB, mx_n hB, mx_n hB', mx_n hB', eu]
      rw [mo_rp (hE _) (hr (P1 x) (P1 y) (Or.inl rfl) (Or.inl rfl)), mo_rp (hE _) (hr (P2 x) (P2 y) (Or.inr rfl) (Or.inr rfl))]
      exact eq_r
  · by_cases hB' : rel (on9 s y) (P1 x) (P3 x)
    · obtain ⟨⟨hA', hB⟩, hr⟩ := c1.2 hA hB'
      rw [dd_n hA, dd_n hA', mx_y hB, mx_y hB', eu]
      rcases hr with ⟨h1, h2⟩ | ⟨h1, h2⟩
      · rw [mo_rp (hE _) h1, mo_rp (hE _) h2]
        exact eq_r
      · rw [mo_rp (hE _) h1, mo_rp (hE _) h2]
        exact eq_cm
    · by_cases hA' : rel s (P1 y) (P3 y)
      · have hB : rel (on9 s x) (P1 y) (P3 y) := by
          apply Classical.byContradiction
          intro h9
          exact hA (c2.1 hA' h9).1.1
        rw [dd_n hA, dd_y hA', mx_y hB, mx_n hB', mx_n hB', eu]
        exact eq_r
      · have hB : ¬ rel (on9 s x) (P1 y) (P3 y) := fun h9 => hB' (c2.2 hA' h9).1.2
        rw [dd_n hA, dd_n hA', mx_n hB, mx_n hB', eu]
        exact eq_r
/-- D on a monomial -/
theorem D_mo (hC : cub9 n P1 P2 P3 rel) (s : Nat → Bool) (T : List Nat) : ∀ k, k ≤ n → eq9 (bd9 (D9 P1 P2 P3 rel k) (mo9 rel s T)) (mD9 P1 P2 P3 rel k s T) := by
  intro k
  induction k with
  | zero =>
    intro _ γ
    show smf9 (id9 γ) (bd9 (D9 P1 P2 P3 rel 0) (mo9 rel s T)) = 0
    rw [sm_bd]
    have : ∀ l : fc9, smf9 (fun δ => smf9 (id9 γ) (D9 P1 P2 P3 rel 0 δ)) l = 0 := fun l => by
      induction l with
      | nil => rfl
      | cons q l ih =>
        show q.1 * 0 + smf9 (fun δ => smf9 (id9 γ) (D9 P1 P2 P3 rel 0 δ)) l = 0
        rw [ih, Int.mul_zero]
        rfl
    exact this _
  | succ k ih =>
    intro hk γ
    have ih9 := ih (by omega) γ
    show smf9 (id9 γ) (bd9 (D9 P1 P2 P3 rel (k + 1)) (mo9 rel s T)) = smf9 (id9 γ) (mD9 P1 P2 P3 rel k s T ++ (if s k = true then [] else scf9 (par9 s k) (mx9 P1 P2 P3 rel k s T)))
    have ih9 : smf9 (id9 γ) (bd9 (D9 P1 P2 P3 rel k) (mo9 rel s T)) = smf9 (id9 γ) (mD9 P1 P2 P3 rel k s T) := ih9
    rw [sm_a, ← ih9, sm_bd, sm_bd]
    by_cases hf : fe9 rel s T
    · rw [mo_y hf]
      show 1 * smf9 (id9 γ) (D9 P1 P2 P3 rel k (s, inm9 rel s T) ++ (if s k = true then [] else scf9 (par9 s k) (Dx9 P1 P2 P3 rel k (s, inm9 rel s T)))) + 0 = 1 * smf9 (id9 γ) (D9 P1 P2 P3 rel k (s, inm9 rel s T)) + 0 + _
      rw [sm_a]
      by_cases c : s k = true
      · rw [if_pos c, if_pos c]
        omega
      · rw [if_neg c, if_neg c, sm_sc, sm_sc]
        have h1 := dx_mo hC (x := k) (by omega) (show s k = false by cases h : s k <;> simp_all) T γ
        rw [mo_y hf] at h1
        have h2 := bd_1 (f := Dx9 P1 P2 P3 rel k) (s, inm9 rel s T) γ
        have h3 : smf9 (id9 γ) (Dx9 P1 P2 P3 rel k (s, inm9 rel s T)) = smf9 (id9 γ) (mx9 P1 P2 P3 rel k s T) := h2.symm.trans h1
        rw [h3]
        omega
    · rw [mo_n9 hf]
      show (0 : Int) = 0 + _
      by_cases c : s k = true
      · rw [if_pos c]
        rfl
      · rw [if_neg c, sm_sc]
        have h1 := dx_mo hC (x := k) (by omega) (show s k = false by cases h : s k <;> simp_all) T γ
        rw [mo_n9 hf] at h1
        have h3 : (0 : Int) = smf9 (id9 γ) (mx9 P1 P2 P3 rel k s T) := h1
        rw [← h3, Int.mul_zero]
        rfl
/-- D OF D IS 0 -/
theorem DD_0 (hC : cub9 n P1 P2 P3 rel) (s : Nat → Bool) (T : List Nat) (γ : gn9) : cf9 (bd9 (D9 P1 P2 P3 rel n) (mD9 P1 P2 P3 rel n s T)) γ = 0 := by
  have e1 : cf9 (bd9 (D9 P1 P2 P3 rel n) (mD9 P1 P2 P3 rel n s T)) γ = sN9 (fun x => if s x = true then 0 else par9 s x * smf9 (fun δ => smf9 (id9 γ) (D9 P1 P2 P3 rel n δ)) (mx9 P1 P2 P3 rel x s T)) n := by
    show smf9 (id9 γ) (bd9 (D9 P1 P2 P3 rel n) (mD9 P1 P2 P3 rel n s T)) = _
    rw [sm_bd, smf_mD]
  have e0 : ∀ t T', smf9 (fun δ => smf9 (id9 γ) (D9 P1 P2 P3 rel n δ)) (mo9 rel t T') = sN9 (fun y => if t y = true then 0 else par9 t y * cf9 (mx9 P1 P2 P3 rel y t T') γ) n := fun t T' => by
    have h1 := D_mo hC t T' n (Nat.le_refl n) γ
    have h2 : smf9 (id9 γ) (bd9 (D9 P1 P2 P3 rel n) (mo9 rel t T')) = smf9 (id9 γ) (mD9 P1 P2 P3 rel n t T') := h1
    rw [sm_bd, smf_mD] at h2
    exact h2
  have e2 : ∀ x, smf9 (fun δ => smf9 (id9 γ) (D9 P1 P2 P3 rel n δ)) (mx9 P1 P2 P3 rel x s T) = sN9 (fun y => if on9 s x y = true then 0 else par9 (on9 s x) y * cf9 (dd9 P1 P2 P3 rel x y s T) γ) n := fun x => by
    by_cases hA : rel s (P1 x) (P3 x)
    · rw [mx_y hA, sm_a, e0, e0, ← sN_a]
      refine sN_cg (fun y _ => ?_)
      split
      · rfl
      · rw [dd_y hA, cf_a, Int.mul_add]
    · rw [mx_n hA, e0]
      refine sN_cg (fun y _ => ?_)
      rw [dd_n hA]
  rw [e1]
  let a : Nat → Nat → Int := fun x y => if s x = true ∨ s y = true ∨ x = y ∨ n ≤ x ∨ n ≤ y then 0 else par9 s x * par9 (on9 s x) y * cf9 (dd9 P1 P2 P3 rel x y s T) γ
  have ha : ∀ x y, a x y = -a y x := fun x y => by
    show (if s x = true ∨ s y = true ∨ x = y ∨ n ≤ x ∨ n ≤ y then 0 else par9 s x * par9 (on9 s x) y * cf9 (dd9 P1 P2 P3 rel x y s T) γ) = -(if s y = true ∨ s x = true ∨ y = x ∨ n ≤ y ∨ n ≤ x then 0 else par9 s y * par9 (on9 s y) x * cf9 (dd9 P1 P2 P3 rel y x s T) γ)
    by_cases c : s x = true ∨ s y = true ∨ x = y ∨ n ≤ x ∨ n ≤ y
    · rw [if_pos c, if_pos (by
        rcases c with c | c | c | c | c
        · exact Or.inr (Or.inl c)
        · exact Or.inl c
        · exact Or.inr (Or.inr (Or.inl c.symm))
        · exact Or.inr (Or.inr (Or.inr (Or.inr c)))
        · exact Or.inr (Or.inr (Or.inr (Or.inl c))))]
      rfl
    · rw [if_neg c, if_neg (fun h9 => c (by
        rcases h9 with c | c | c | c | c
        · exact Or.inr (Or.inl c)
        · exact Or.inl c
        · exact Or.inr (Or.inr (Or.inl c.symm))
        · exact Or.inr (Or.inr (Or.inr (Or.inr c)))
        · exact Or.inr (Or.inr (Or.inr (Or.inl c)))))]
      have sx : s x = false := by
        cases h : s x
        · rfl
        · exact absurd (Or.inl h) c
      have sy : s y = false := by
        cases h : s y
        · rfl
        · exact absurd (Or.inr (Or.inl h)) c
      have hne : x ≠ y := fun h9 => c (Or.inr (Or.inr (Or.inl h9)))
      have hx : x < n := Nat.lt_of_not_le (fun h9 => c (Or.inr (Or.inr (Or.inr (Or.inl h9)))))
      have hy : y < n := Nat.lt_of_not_le (fun h9 => c (Or.inr (Or.inr (Or.inr (Or.inr h9)))))
      rw [dd_sym hC hx hy sx sy hne γ, par_an sx sy hne, Int.neg_mul]
  have e3 : sN9 (fun x => if s x = true then 0 else par9 s x * smf9 (fun δ => smf9 (id9 γ) (D9 P1 P2 P3 rel n δ)) (mx9 P1 P2 P3 rel x s T)) n = sN9 (fun x => sN9 (fun y => a x y) n) n := sN_cg (fun x hx => by
    by_cases c : s x = true
    · rw [if_pos c]
      have : (fun y => a x y) = fun _ => (0 : Int) := funext (fun y => if_pos (Or.inl c))
      rw [this, sN_0]
    · rw [if_neg c, e2 x]
      have mul : ∀ (f : Nat → Int) (k : Nat), par9 s x * sN9 f k = sN9 (fun y => par9 s x * f y) k := fun f k => by
        induction k with
        | zero => exact Int.mul_zero _
        | succ k ih =>
          show par9 s x * (sN9 f k + f k) = sN9 (fun y => par9 s x * f y) k + par9 s x * f k
          rw [Int.mul_add, ih]
      rw [mul]
      refine sN_cg (fun y hy => ?_)
      show par9 s x * (if on9 s x y = true then 0 else par9 (on9 s x) y * cf9 (dd9 P1 P2 P3 rel x y s T) γ) = if s x = true ∨ s y = true ∨ x = y ∨ n ≤ x ∨ n ≤ y then 0 else par9 s x * par9 (on9 s x) y * cf9 (dd9 P1 P2 P3 rel x y s T) γ
      by_cases e : y = x
      · rw [e, on_x, if_pos rfl, if_pos (Or.inr (Or.inr (Or.inl rfl))), Int.mul_zero]
      · rw [on_o e]
        by_cases c2 : s y = true
        · rw [if_pos c2, if_pos (Or.inr (Or.inl c2)), Int.mul_zero]
        · rw [if_neg c2, if_neg (fun h9 => by
            rcases h9 with h9 | h9 | h9 | h9 | h9
            · exact c h9
            · exact c2 h9
            · exact e h9.symm
            · omega
            · omega), Int.mul_assoc])
  rw [e3]
  exact sN_an ha n
end XCH8
end
section
/-! 99zzzzzzzzzzzzzzzzyg.xch5 -/
/-! chain: when two rows of groups leave the same -/
section XCH9
variable {p : Int} {n0 n1 n2 m0 m1 m2 : Nat} {d0 d1 e0 e1 f0 f1 f2 : Nat → vc9}
/-- from kernels and images to sizes and ranks -/
theorem hd_rk (hp : pr9 p) (hi : iv9 p) (hdd : ∀ v, zq9 p n2 (ap9 d1 n1 (ap9 d0 n0 v)) (fun _ => 0)) (hee : ∀ v, zq9 p m2 (ap9 e1 m1 (ap9 e0 m0 v)) (fun _ => 0)) (h : dm9 p n1 (kr9 p n2 d1 n1) + dm9 p m1 (sp9 p m1 (rwl9 e0 m0)) = dm9 p m1 (kr9 p m2 e1 m1) + dm9 p n1 (sp9 p n1 (rwl9 d0 n0))) : n1 + (rk9 p m2 (rwl9 e1 m1) + rk9 p m1 (rwl9 e0 m0)) = m1 + (rk9 p n2 (rwl9 d1 n1) + rk9 p n1 (rwl9 d0 n0)) := by
  have k1 := kr_dm (m := n2) (n := n1) (d := d1) hp.1 hi
  have k2 := kr_dm (m := m2) (n := m1) (d := e1) hp.1 hi
  rw [← rk_dm hp hi, ← rk_dm hp hi] at h
  omega
/-- f one to one from e to d; what comes from f by d comes from f but for an image -/
theorem quo9 (hp : pr9 p) (hi : iv9 p) (hdd : ∀ v, zq9 p n2 (ap9 d1 n1 (ap9 d0 n0 v)) (fun _ => 0)) (hee : ∀ v, zq9 p m2 (ap9 e1 m1 (ap9 e0 m0 v)) (fun _ => 0)) (c0 : ∀ v, zq9 p n1 (ap9 f1 m1 (ap9 e0 m0 v)) (ap9 d0 n0 (ap9 f0 m0 v))) (c1 : ∀ v, zq9 p n2 (ap9 f2 m2 (ap9 e1 m1 v)) (ap9 d1 n1 (ap9 f1 m1 v))) (i1 : ∀ v, zq9 p n1 (ap9 f1 m1 v) (fun _ => 0) → zq9 p m1 v (fun _ => 0)) (i2 : ∀ v, zq9 p n2 (ap9 f2 m2 v) (fun _ => 0) → zq9 p m2 v (fun _ => 0)) (r1 : ∀ v u, zq9 p n2 (ap9 d1 n1 v) (ap9 f2 m2 u) → ∃ t w, zq9 p n1 v (fun i => ap9 f1 m1 t i + ap9 d0 n0 w i)) (r0 : ∀ v u, zq9 p n1 (ap9 d0 n0 v) (ap9 f1 m1 u) → ∃ t, zq9 p n1 (ap9 d0 n0 v) (ap9 d0 n0 (ap9 f0 m0 t))) : n1 + (rk9 p m2 (rwl9 e1 m1) + rk9 p m1 (rwl9 e0 m0)) = m1 + (rk9 p n2 (rwl9 d1 n1) + rk9 p n1 (rwl9 d0 n0)) := by
  have z0 : ∀ {n m : Nat} {d : Nat → vc9} {v : vc9}, zq9 p n v (fun _ => 0) → zq9 p m (ap9 d n v) (fun _ => 0) := fun hv => zq_t (ap_q hv) (fun j _ => by rw [ap_0, Int.sub_self]; exact Int.dvd_zero p)
  refine hd_rk hp hi hdd hee (hd_eq hp hi (F := f1) sub_kr sub_kr (sub_sp _) (sub_sp _) (fun v hv => ?_) (fun v hv => ?_) (fun v hv => ?_) (fun v hv => ?_) (fun z hz => ?_) (fun z hz hb => ?_))
  · obtain ⟨w, hw⟩ := sp_ap.mp hv
    exact zq_t (ap_q hw) (hdd w)
  · obtain ⟨w, hw⟩ := sp_ap.mp hv
    exact zq_t (ap_q hw) (hee w)
  · exact zq_t (zq_s (c1 v)) (z0 hv)
  · obtain ⟨w, hw⟩ := sp_ap.mp hv
    exact sp_ap.mpr ⟨ap9 f0 m0 w, zq_t (ap_q hw) (c0 w)⟩
  · obtain ⟨t, w, h1⟩ := r1 z (fun _ => 0) (zq_t hz (zq_s (z0 zq_r)))
    refine ⟨t, i2 _ (zq_t (c1 t) ?_), sp_ap.mpr ⟨w, fun i hi9 => ?_⟩⟩
    · -- d1 (f1 t) = d1 (z - d0 w) = 0
      have h2 := ap_q (d := d1) (m := n2) h1
      intro j hj
      have a1 := h2 j hj
      have a2 := hz j hj
      have a3 := hdd w j hj
      rw [ap_add] at a1
      have := Int.dvd_sub (Int.dvd_sub a2 a1) a3
      rw [show ap9 d1 n1 z j - 0 - (ap9 d1 n1 z j - (ap9 d1 n1 (ap9 f1 m1 t) j + ap9 d1 n1 (ap9 d0 n0 w) j)) - (ap9 d1 n1 (ap9 d0 n0 w) j - 0) = ap9 d1 n1 (ap9 f1 m1 t) j - 0 by omega] at this
      exact this
    · have a1 := h1 i hi9
      show p ∣ z i - ap9 f1 m1 t i - ap9 d0 n0 w i
      rw [show z i - ap9 f1 m1 t i - ap9 d0 n0 w i = z i - (ap9 f1 m1 t i + ap9 d0 n0 w i) by omega]
      exact a1
  · obtain ⟨c, hc⟩ := sp_ap.mp hb
    obtain ⟨t, ht⟩ := r0 c z (zq_s hc)
    refine sp_ap.mpr ⟨t, ?_⟩
    have h3 : zq9 p n1 (ap9 f1 m1 z) (ap9 f1 m1 (ap9 e0 m0 t)) := zq_t hc (zq_t ht (zq_s (c0 t)))
    have h4 := i1 (fun i => z i + (-1) * ap9 e0 m0 t i) (fun j hj => by
      rw [ap_add, ap_mul]
      have := h3 j hj
      rw [show ap9 f1 m1 z j + -1 * ap9 f1 m1 (ap9 e0 m0 t) j - 0 = ap9 f1 m1 z j - ap9 f1 m1 (ap9 e0 m0 t) j by omega]
      exact this)
    intro i hi9
    have := h4 i hi9
    rw [show z i + -1 * ap9 e0 m0 t i - 0 = z i - ap9 e0 m0 t i by omega] at this
    exact this
/-- f onto from d to e; what f takes to 0 is an image of such, if it is taken to 0 by d -/
theorem sbx9 (hp : pr9 p) (hi : iv9 p) (hdd : ∀ v, zq9 p n2 (ap9 d1 n1 (ap9 d0 n0 v)) (fun _ => 0)) (hee : ∀ v, zq9 p m2 (ap9 e1 m1 (ap9 e0 m0 v)) (fun _ => 0)) (c0 : ∀ v, zq9 p m1 (ap9 f1 n1 (ap9 d0 n0 v)) (ap9 e0 m0 (ap9 f0 n0 v))) (c1 : ∀ v, zq9 p m2 (ap9 f2 n2 (ap9 d1 n1 v)) (ap9 e1 m1 (ap9 f1 n1 v))) (s0 : ∀ u, ∃ v, zq9 p m0 (ap9 f0 n0 v) u) (s1 : ∀ u, ∃ v, zq9 p m1 (ap9 f1 n1 v) u) (r1 : ∀ v, zq9 p m1 (ap9 f1 n1 v) (fun _ => 0) → zq9 p n2 (ap9 d1 n1 v) (fun _ => 0) → ∃ w, zq9 p n1 v (ap9 d0 n0 w)) (r2 : ∀ v, zq9 p m2 (ap9 f2 n2 (ap9 d1 n1 v)) (fun _ => 0) → ∃ w, zq9 p m1 (ap9 f1 n1 w) (fun _ => 0) ∧ zq9 p n2 (ap9 d1 n1 v) (ap9 d1 n1 w)) : m1 + (rk9 p n2 (rwl9 d1 n1) + rk9 p n1 (rwl9 d0 n0)) = n1 + (rk9 p m2 (rwl9 e1 m1) + rk9 p m1 (rwl9 e0 m0)) := by
  have z0 : ∀ {n m : Nat} {d : Nat → vc9} {v : vc9}, zq9 p n v (fun _ => 0) → zq9 p m (ap9 d n v) (fun _ => 0) := fun hv => zq_t (ap_q hv) (fun j _ => by rw [ap_0, Int.sub_self]; exact Int.dvd_zero p)
  refine hd_rk hp hi hee hdd (hd_eq hp hi (F := f1) sub_kr sub_kr (sub_sp _) (sub_sp _) (fun v hv => ?_) (fun v hv => ?_) (fun v hv => ?_) (fun v hv => ?_) (fun z hz => ?_) (fun z hz hb => ?_))
  · obtain ⟨w, hw⟩ := sp_ap.mp hv
    exact zq_t (ap_q hw) (hee w)
  · obtain ⟨w, hw⟩ := sp_ap.mp hv
    exact zq_t (ap_q hw) (hdd w)
  · exact zq_t (zq_s (c1 v)) (z0 hv)
  · obtain ⟨w, hw⟩ := sp_ap.mp hv
    exact sp_ap.mpr ⟨ap9 f0 n0 w, zq_t (ap_q hw) (c0 w)⟩
  · obtain ⟨v, hv⟩ := s1 z
    obtain ⟨w, w1, w2⟩ := r2 v (zq_t (c1 v) (zq_t (ap_q hv) hz))
    refine ⟨fun i => v i + (-1) * w i, fun j hj => ?_, sp_q (fun i hi9 => ?_) sp_0⟩
    · rw [ap_add, ap_mul]
      have := w2 j hj
      rw [show ap9 d1 n1 v j + -1 * ap9 d1 n1 w j - 0 = ap9 d1 n1 v j - ap9 d1 n1 w j by omega]
      exact this
    · have a1 := hv i hi9
      have a2 := w1 i hi9
      rw [ap_add, ap_mul]
      have := Int.dvd_sub a2 a1
      rw [show ap9 f1 n1 w i - 0 - (ap9 f1 n1 v i - z i) = z i - (ap9 f1 n1 v i + -1 * ap9 f1 n1 w i) - 0 by omega] at this
      exact this
  · obtain ⟨c, hc⟩ := sp_ap.mp hb
    obtain ⟨u, hu⟩ := s0 c
    have h1 : zq9 p m1 (ap9 f1 n1 (fun i => z i + (-1) * ap9 d0 n0 u i)) (fun _ => 0) := fun j hj => by
      rw [ap_add, ap_mul]
      have a1 := hc j hj
      have a2 := (zq_t (c0 u) (ap_q hu)) j hj
      have := Int.dvd_sub a1 a2
      rw [show ap9 f1 n1 z j - ap9 e0 m0 c j - (ap9 f1 n1 (ap9 d0 n0 u) j - ap9 e0 m0 c j) = ap9 f1 n1 z j + -1 * ap9 f1 n1 (ap9 d0 n0 u) j - 0 by omega] at this
      exact this
    have h2 : zq9 p n2 (ap9 d1 n1 (fun i => z i + (-1) * ap9 d0 n0 u i)) (fun _ => 0) := fun j hj => by
      rw [ap_add, ap_mul]
      have a1 := hz j hj
      have a2 := dvr9 (-1) (hdd u j hj)
      have := Int.dvd_add a1 a2
      rw [show ap9 d1 n1 z j - 0 + -1 * (ap9 d1 n1 (ap9 d0 n0 u) j - 0) = ap9 d1 n1 z j + -1 * ap9 d1 n1 (ap9 d0 n0 u) j - 0 by omega] at this
      exact this
    obtain ⟨w, hw⟩ := r1 _ h1 h2
    refine sp_q (fun i hi9 => ?_) (sp_a (sp_ap.mpr ⟨w, zq_r⟩) (sp_ap.mpr ⟨u, zq_r⟩))
    have a1 := hw i hi9
    show p ∣ z i - (ap9 d0 n0 w i + ap9 d0 n0 u i)
    rw [show z i - (ap9 d0 n0 w i + ap9 d0 n0 u i) = z i + -1 * ap9 d0 n0 u i - ap9 d0 n0 w i by omega]
    exact a1
end XCH9
end
section
/-! 99zzzzzzzzzzzzzzzzyh.xch6 -/
/-! chain: groups given by their generators -/
def cmb9 (E : Nat → gn9) : Nat → vc9 → fc9
  | 0, _ => []
  | n + 1, v => cmb9 E n v ++ [(v n, E n)]
noncomputable def mtx9 (f : gn9 → fc9) (E E' : Nat → gn9) : Nat → vc9 := fun i j => cf9 (f (E i)) (E' j)
def inj9 (E : Nat → gn9) (n : Nat) : Prop := ∀ i j, i < n → j < n → E i = E j → i = j
/-- nothing outside -/
def spt9 (l : fc9) (E : Nat → gn9) (n : Nat) : Prop := ∀ γ, cf9 l γ ≠ 0 → ∃ j, j < n ∧ γ = E j
section XCHA
variable {p : Int} {n n' : Nat} {E E' E'' : Nat → gn9} {f g : gn9 → fc9} {φ : gn9 → Int} {v : vc9} {l l' : fc9}
theorem sm_cm : ∀ {n : Nat}, smf9 φ (cmb9 E n v) = sN9 (fun i => v i * φ (E i)) n
  | 0 => rfl
  | n + 1 => by
    show smf9 φ (cmb9 E n v ++ [(v n, E n)]) = sN9 (fun i => v i * φ (E i)) n + v n * φ (E n)
    rw [sm_a, sm_cm]
    show _ + (v n * φ (E n) + 0) = _
    omega
theorem cf_bd (γ : gn9) : cf9 (bd9 f l) γ = smf9 (fun δ => cf9 (f δ) γ) l := sm_bd
theorem ap_mt (j : Nat) : ∀ {n : Nat}, ap9 (mtx9 f E E') n v j = cf9 (bd9 f (cmb9 E n v)) (E' j)
  | 0 => rfl
  | n + 1 => by
    show ap9 (mtx9 f E E') n v j + v n * cf9 (f (E n)) (E' j) = cf9 (bd9 f (cmb9 E n v ++ [(v n, E n)])) (E' j)
    rw [ap_mt j, cf_bd, cf_bd, sm_a]
    show _ = _ + (v n * cf9 (f (E n)) (E' j) + 0)
    omega
theorem cf_cm (γ : gn9) : cf9 (cmb9 E n v) γ = sN9 (fun i => v i * id9 γ (E i)) n := sm_cm
theorem cf_cn {γ : gn9} : ∀ {n : Nat}, (∀ i, i < n → E i ≠ γ) → cf9 (cmb9 E n v) γ = 0
  | 0, _ => rfl
  | n + 1, h => by
    show cf9 (cmb9 E n v ++ [(v n, E n)]) γ = 0
    rw [cf_a, cf_cn (n := n) (fun i hi => h i (by omega))]
    show 0 + (v n * id9 γ (E n) + 0) = 0
    rw [id_n (h n (by omega)), Int.mul_zero]
    rfl
theorem cf_cy {j : Nat} : ∀ {n : Nat}, inj9 E n → j < n → cf9 (cmb9 E n v) (E j) = v j
  | 0, _, h => absurd h (Nat.not_lt_zero _)
  | n + 1, hi, h => by
    show cf9 (cmb9 E n v ++ [(v n, E n)]) (E j) = v j
    rw [cf_a]
    by_cases e : j = n
    · rw [e, cf_cn (fun i hi9 h9 => by have := hi i n (by omega) (by omega) h9; omega)]
      show 0 + (v n * id9 (E n) (E n) + 0) = v n
      rw [id_y, Int.mul_one]
      omega
    · rw [cf_cy (n := n) (fun i k h1 h2 => hi i k (by omega) (by omega)) (by omega)]
      show v j + (v n * id9 (E j) (E n) + 0) = v j
      rw [id_n (fun h9 => e (hi j n (by omega) (by omega) h9.symm)), Int.mul_zero]
      omega
theorem cm_cf (hi : inj9 E n) (hs : spt9 l E n) : eq9 (cmb9 E n (fun j => cf9 l (E j))) l := fun γ => by
  by_cases c : ∃ j, j < n ∧ γ = E j
  · obtain ⟨j, h1, rfl⟩ := c
    exact cf_cy hi h1
  · rw [cf_cn (fun i hi9 h9 => c ⟨i, hi9, h9.symm⟩)]
    by_cases z : cf9 l γ = 0
    · exact z.symm
    · exact absurd (hs γ z) c
theorem sN_nz {h : Nat → Int} : ∀ {n : Nat}, sN9 h n ≠ 0 → ∃ i, i < n ∧ h i ≠ 0
  | 0, h9 => absurd rfl h9
  | n + 1, h9 => by
    by_cases c : h n = 0
    · have h9 : sN9 h n + h n ≠ 0 := h9
      rw [c, Int.add_zero] at h9
      obtain ⟨i, h1, h2⟩ := sN_nz h9
      exact ⟨i, by omega, h2⟩
    · exact ⟨n, by omega, c⟩
theorem sp_bd (hs : ∀ i, i < n → spt9 (f (E i)) E' n') : spt9 (bd9 f (cmb9 E n v)) E' n' := fun γ h => by
  rw [cf_bd, sm_cm] at h
  obtain ⟨i, h1, h2⟩ := sN_nz h
  exact hs i h1 γ (fun h9 => h2 (by rw [h9, Int.mul_zero]))
theorem ap_fun : ap9 (mtx9 f E E') n v = fun j => cf9 (bd9 f (cmb9 E n v)) (E' j) := funext (fun j => ap_mt j)
theorem ap_ap (hi : inj9 E' n') (hs : ∀ i, i < n → spt9 (f (E i)) E' n') (j : Nat) : ap9 (mtx9 g E' E'') n' (ap9 (mtx9 f E E') n v) j = cf9 (bd9 g (bd9 f (cmb9 E n v))) (E'' j) := by
  rw [ap_mt, ap_fun]
  exact bd_q (cm_cf hi (sp_bd hs)) _
/-- two ways alike on generators are alike -/
theorem bb_q {f1 g1 f2 g2 : gn9 → fc9} (h : ∀ i, i < n → eq9 (bd9 g1 (f1 (E i))) (bd9 g2 (f2 (E i)))) (γ : gn9) : cf9 (bd9 g1 (bd9 f1 (cmb9 E n v))) γ = cf9 (bd9 g2 (bd9 f2 (cmb9 E n v))) γ := by
  rw [cf_bd, cf_bd]
  have e : ∀ (f g : gn9 → fc9), smf9 (fun δ => cf9 (g δ) γ) (bd9 f (cmb9 E n v)) = sN9 (fun i => v i * cf9 (bd9 g (f (E i))) γ) n := fun f g => by
    rw [sm_bd, sm_cm]
    refine sN_cg (fun i _ => ?_)
    rw [cf_bd]
  rw [e, e]
  exact sN_cg (fun i hi => by rw [h i hi γ])
theorem bb_0 {f1 g1 : gn9 → fc9} (h : ∀ i, i < n → eq9 (bd9 g1 (f1 (E i))) []) (γ : gn9) : cf9 (bd9 g1 (bd9 f1 (cmb9 E n v))) γ = 0 := by
  rw [cf_bd, sm_bd, sm_cm]
  have : (fun i => v i * smf9 (fun δ => cf9 (g1 δ) γ) (f1 (E i))) = fun i => v i * cf9 (bd9 g1 (f1 (E i))) γ := funext (fun i => by rw [cf_bd])
  rw [this]
  have e : sN9 (fun i => v i * cf9 (bd9 g1 (f1 (E i))) γ) n = sN9 (fun _ => 0) n := sN_cg (fun i hi => by
    rw [h i hi γ]
    exact Int.mul_zero _)
  rw [e]
  exact sN_0
theorem zq_of {u w : vc9} (h : ∀ j, j < n → u j = w j) : zq9 p n u w := fun j hj => by
  rw [h j hj, Int.sub_self]
  exact Int.dvd_zero p
end XCHA
/-- a row of groups -/
def cx9 (E : Nat → Nat → gn9) (N : Nat → Nat) (D : gn9 → fc9) : Prop := (∀ r, inj9 (E r) (N r)) ∧ (∀ r i, i < N r → spt9 (D (E r i)) (E (r + 1)) (N (r + 1))) ∧ ∀ r i, i < N r → eq9 (bd9 D (D (E r i))) []
/-- the rank from group r to the next -/
noncomputable def rn9 (p : Int) (E : Nat → Nat → gn9) (N : Nat → Nat) (D : gn9 → fc9) (r : Nat) : Nat := rk9 p (N (r + 1)) (rwl9 (mtx9 D (E r) (E (r + 1))) (N r))
section XCHB
variable {p : Int} {E E' : Nat → Nat → gn9} {N N' : Nat → Nat} {D D' F h : gn9 → fc9}
theorem cx_dd (hC : cx9 E N D) (r : Nat) (v : vc9) : zq9 p (N (r + 2)) (ap9 (mtx9 D (E (r + 1)) (E (r + 2))) (N (r + 1)) (ap9 (mtx9 D (E r) (E (r + 1))) (N r) v)) (fun _ => 0) := zq_of (fun j _ => by
  rw [ap_ap (hC.1 (r + 1)) (hC.2.1 r)]
  exact bb_0 (hC.2.2 r) _)
/-- a projection whose kernel is spanned by the generators K and is acyclic by h -/
theorem subT (hp : pr9 p) (hi : iv9 p) (hC : cx9 E N D) (hC' : cx9 E' N' D') (K : gn9 → Prop) (fs : ∀ r i, i < N r → spt9 (F (E r i)) (E' r) (N' r)) (fc : ∀ r i, i < N r → eq9 (bd9 F (D (E r i))) (bd9 D' (F (E r i)))) (fo : ∀ r (u : vc9), ∃ v, ∀ j, j < N' r → cf9 (bd9 F (cmb9 (E r) (N r) v)) (E' r j) = u j) (fk : ∀ r (v : vc9), zq9 p (N' r) (fun j => cf9 (bd9 F (cmb9 (E r) (N r) v)) (E' r j)) (fun _ => 0) → ∀ i, i < N r → K (E r i) ∨ p ∣ v i) (hs : ∀ r i, i < N (r + 1) → spt9 (h (E (r + 1) i)) (E r) (N r)) (hF : ∀ r i, i < N (r + 1) → eq9 (bd9 F (h (E (r + 1) i))) []) (hh : ∀ r i, i < N (r + 1) → K (E (r + 1) i) → eq9 (bd9 D (h (E (r + 1) i)) ++ bd9 h (D (E (r + 1) i))) [(1, E (r + 1) i)]) (r : Nat) : N' (r + 1) + (rn9 p E N D (r + 1) + rn9 p E N D r) = N (r + 1) + (rn9 p E' N' D' (r + 1) + rn9 p E' N' D' r) := by
  -- what is taken to 0 by F and by D is an image
  have ac : ∀ r (v : vc9), zq9 p (N' (r + 1)) (ap9 (mtx9 F (E (r + 1)) (E' (r + 1))) (N (r + 1)) v) (fun _ => 0) → zq9 p (N (r + 2)) (ap9 (mtx9 D (E (r + 1)) (E (r + 2))) (N (r + 1)) v) (fun _ => 0) → zq9 p (N (r + 1)) v (ap9 (mtx9 D (E r) (E (r + 1))) (N r) (ap9 (mtx9 h (E (r + 1)) (E r)) (N (r + 1)) v)) := fun r v h1 h2 => by
    rw [ap_fun] at h1
    have k1 := fk (r + 1) v h1
    intro j hj
    rw [ap_ap (hC.1 r) (hs r)]
    -- D h v + h D v = v on K; h D v = 0
    have h3 : p ∣ cf9 (bd9 h (bd9 D (cmb9 (E (r + 1)) (N (r + 1)) v))) (E (r + 1) j) := by
      have q : zq9 p (N (r + 1)) (ap9 (mtx9 h (E (r + 2)) (E (r + 1))) (N (r + 2)) (ap9 (mtx9 D (E (r + 1)) (E (r + 2))) (N (r + 1)) v)) (fun _ => 0) := zq_t (ap_q h2) (fun t _ => by rw [ap_0, Int.sub_self]; exact Int.dvd_zero p)
      have := q j hj
      rw [ap_ap (hC.1 (r + 2)) (hC.2.1 (r + 1)), Int.sub_zero] at this
      exact this
    have e1 : ∀ f g : gn9 → fc9, cf9 (bd9 g (bd9 f (cmb9 (E (r + 1)) (N (r + 1)) v))) (E (r + 1) j) = sN9 (fun i => v i * cf9 (bd9 g (f (E (r + 1) i))) (E (r + 1) j)) (N (r + 1)) := fun f g => by
      rw [cf_bd, sm_bd, sm_cm]
      exact sN_cg (fun i _ => by rw [cf_bd])
    have dvN : ∀ (a : Nat → Int) (k : Nat), (∀ i, i < k → p ∣ a i) → p ∣ sN9 a k := fun a k => by
      induction k with
      | zero => intro _; exact Int.dvd_zero p
      | succ k ih => intro ha; exact Int.dvd_add (ih (fun i hi9 => ha i (by omega))) (ha k (by omega))
    have h4 : p ∣ sN9 (fun i => v i * (cf9 (bd9 D (h (E (r + 1) i))) (E (r + 1) j) + cf9 (bd9 h (D (E (r + 1) i))) (E (r + 1) j) - id9 (E (r + 1) j) (E (r + 1) i))) (N (r + 1)) := dvN _ _ (fun i hi9 => by
      rcases k1 i hi9 with k | k
      · have := hh r i hi9 k (E (r + 1) j)
        rw [cf_a] at this
        rw [this]
        show p ∣ v i * (1 * id9 (E (r + 1) j) (E (r + 1) i) + 0 - id9 (E (r + 1) j) (E (r + 1) i))
        rw [show (1 : Int) * id9 (E (r + 1) j) (E (r + 1) i) + 0 - id9 (E (r + 1) j) (E (r + 1) i) = 0 by omega, Int.mul_zero]
        exact Int.dvd_zero p
      · exact dvl9 _ k)
    have e2 : sN9 (fun i => v i * (cf9 (bd9 D (h (E (r + 1) i))) (E (r + 1) j) + cf9 (bd9 h (D (E (r + 1) i))) (E (r + 1) j) - id9 (E (r + 1) j) (E (r + 1) i))) (N (r + 1)) = cf9 (bd9 D (bd9 h (cmb9 (E (r + 1)) (N (r + 1)) v))) (E (r + 1) j) + cf9 (bd9 h (bd9 D (cmb9 (E (r + 1)) (N (r + 1)) v))) (E (r + 1) j) - v j := by
      rw [e1 h D, e1 D h, ← cf_cy (v := v) (hC.1 (r + 1)) hj, cf_cm, ← sN_a]
      have neg : ∀ (a b : Nat → Int) (k : Nat), sN9 a k - sN9 b k = sN9 (fun i => a i - b i) k := fun a b k => by
        induction k with
        | zero => rfl
        | succ k ih =>
          show sN9 a k + a k - (sN9 b k + b k) = sN9 (fun i => a i - b i) k + (a k - b k)
          rw [← ih]
          omega
      rw [neg]
      refine sN_cg (fun i _ => ?_)
      rw [Int.mul_sub, Int.mul_add]
    rw [e2] at h4
    have := Int.dvd_neg.mpr (Int.dvd_sub h4 h3)
    rw [show -(cf9 (bd9 D (bd9 h (cmb9 (E (r + 1)) (N (r + 1)) v))) (E (r + 1) j) + cf9 (bd9 h (bd9 D (cmb9 (E (r + 1)) (N (r + 1)) v))) (E (r + 1) j) - v j - cf9 (bd9 h (bd9 D (cmb9 (E (r + 1)) (N (r + 1)) v))) (E (r + 1) j)) = v j - cf9 (bd9 D (bd9 h (cmb9 (E (r + 1)) (N (r + 1)) v))) (E (r + 1) j) by omega] at this
    exact this
  have ch : ∀ r (v : vc9), zq9 p (N' (r + 1)) (ap9 (mtx9 F (E (r + 1)) (E' (r + 1))) (N (r + 1)) (ap9 (mtx9 D (E r) (E (r + 1))) (N r) v)) (ap9 (mtx9 D' (E' r) (E' (r + 1))) (N' r) (ap9 (mtx9 F (E r) (E' r)) (N r) v)) := fun r v => zq_of (fun j _ => by
    rw [ap_ap (hC.1 (r + 1)) (hC.2.1 r), ap_ap (hC'.1 r) (fs r)]
    exact bb_q (fc r) _)
  have on9 : ∀ r u, ∃ v, zq9 p (N' r) (ap9 (mtx9 F (E r) (E' r)) (N r) v) u := fun r u => by
    obtain ⟨v, hv⟩ := fo r u
    exact ⟨v, zq_of (fun j hj => by rw [ap_mt]; exact hv j hj)⟩
  refine sbx9 (f0 := mtx9 F (E r) (E' r)) (f1 := mtx9 F (E (r + 1)) (E' (r + 1))) (f2 := mtx9 F (E (r + 2)) (E' (r + 2))) hp hi (cx_dd hC r) (cx_dd hC' r) (ch r) (ch (r + 1)) (on9 r) (on9 (r + 1)) (fun v h1 h2 => ⟨_, ac r v h1 h2⟩) (fun v h1 => ?_)
  refine ⟨ap9 (mtx9 h (E (r + 2)) (E (r + 1))) (N (r + 2)) (ap9 (mtx9 D (E (r + 1)) (E (r + 2))) (N (r + 1)) v), ?_, ac (r + 1) _ h1 (cx_dd hC (r + 1) v)⟩
  refine zq_of (fun j hj => ?_)
  generalize ap9 (mtx9 D (E (r + 1)) (E (r + 2))) (N (r + 1)) v = w
  rw [ap_ap (hC.1 (r + 1)) (hs (r + 1))]
  exact bb_0 (hF (r + 1)) _
end XCHB
end
section
/-! 99zzzzzzzzzzzzzzzzyi.xch7 -/
/-! chain: an inclusion with an acyclic rest -/
section XCHC
variable {p : Int} {E E' : Nat → Nat → gn9} {N N' : Nat → Nat} {D D' f h : gn9 → fc9}
theorem dvN {a : Nat → Int} : ∀ {k : Nat}, (∀ i, i < k → p ∣ a i) → p ∣ sN9 a k
  | 0, _ => Int.dvd_zero p
  | k + 1, h => Int.dvd_add (dvN (fun i hi => h i (by omega))) (h k (by omega))
theorem sN_sub {a b : Nat → Int} : ∀ {k : Nat}, sN9 a k - sN9 b k = sN9 (fun i => a i - b i) k
  | 0 => rfl
  | k + 1 => by
    show sN9 a k + a k - (sN9 b k + b k) = sN9 (fun i => a i - b i) k + (a k - b k)
    rw [← sN_sub]
    omega
theorem quoT (hp : pr9 p) (hi : iv9 p) (hC : cx9 E N D) (hC' : cx9 E' N' D') (h0 : N 0 = 0) (S : gn9 → Prop) (fs : ∀ r i, i < N' r → spt9 (f (E' r i)) (E r) (N r)) (fc : ∀ r i, i < N' r → eq9 (bd9 f (D' (E' r i))) (bd9 D (f (E' r i)))) (fi : ∀ r (v : vc9), zq9 p (N r) (fun j => cf9 (bd9 f (cmb9 (E' r) (N' r) v)) (E r j)) (fun _ => 0) → zq9 p (N' r) v (fun _ => 0)) (fS : ∀ r (u : vc9), (∀ j, j < N r → S (E r j) ∨ p ∣ u j) → ∃ t, zq9 p (N r) u (fun j => cf9 (bd9 f (cmb9 (E' r) (N' r) t)) (E r j))) (fT : ∀ r (v : vc9) j, j < N r → S (E r j) ∨ cf9 (bd9 f (cmb9 (E' r) (N' r) v)) (E r j) = 0) (hs : ∀ r i, i < N (r + 1) → spt9 (h (E (r + 1) i)) (E r) (N r)) (hS : ∀ r i, i < N (r + 1) → S (E (r + 1) i) → eq9 (h (E (r + 1) i)) []) (sD : ∀ r i j, i < N r → j < N (r + 1) → S (E r i) → S (E (r + 1) j) ∨ cf9 (D (E r i)) (E (r + 1) j) = 0) (hh : ∀ r i j, i < N (r + 1) → j < N (r + 1) → S (E (r + 1) i) ∨ S (E (r + 1) j) ∨ cf9 (bd9 D (h (E (r + 1) i)) ++ bd9 h (D (E (r + 1) i))) (E (r + 1) j) = id9 (E (r + 1) j) (E (r + 1) i)) (r : Nat) : N (r + 1) + (rn9 p E' N' D' (r + 1) + rn9 p E' N' D' r) = N' (r + 1) + (rn9 p E N D (r + 1) + rn9 p E N D r) := by
  -- h of what lies in S is 0
  have hz : ∀ r (w : vc9), (∀ i, i < N (r + 1) → S (E (r + 1) i) ∨ p ∣ w i) → ∀ γ, p ∣ cf9 (bd9 h (cmb9 (E (r + 1)) (N (r + 1)) w)) γ := fun r w hw γ => by
    rw [cf_bd, sm_cm]
    refine dvN (fun i hi9 => ?_)
    rcases hw i hi9 with k | k
    · have h9 : cf9 (h (E (r + 1) i)) γ = 0 := hS r i hi9 k γ
      show p ∣ w i * cf9 (h (E (r + 1) i)) γ
      rw [h9, Int.mul_zero]
      exact Int.dvd_zero p
    · exact dvl9 _ k
  have ex : ∀ r (v u : vc9), zq9 p (N (r + 2)) (ap9 (mtx9 D (E (r + 1)) (E (r + 2))) (N (r + 1)) v) (ap9 (mtx9 f (E' (r + 2)) (E (r + 2))) (N' (r + 2)) u) → ∃ t w, zq9 p (N (r + 1)) v (fun i => ap9 (mtx9 f (E' (r + 1)) (E (r + 1))) (N' (r + 1)) t i + ap9 (mtx9 D (E r) (E (r + 1))) (N r) w i) := fun r v u hv => by
    have dS : ∀ i, i < N (r + 2) → S (E (r + 2) i) ∨ p ∣ ap9 (mtx9 D (E (r + 1)) (E (r + 2))) (N (r + 1)) v i := fun i hi9 => by
      rcases fT (r + 2) u i hi9 with k | k
      · exact Or.inl k
      · have := hv i hi9
        rw [ap_mt (f := f), k, Int.sub_zero] at this
        exact Or.inr this
    have hD0 := hz (r + 1) _ dS
    have key : ∀ j, j < N (r + 1) → S (E (r + 1) j) ∨ p ∣ v j - ap9 (mtx9 D (E r) (E (r + 1))) (N r) (ap9 (mtx9 h (E (r + 1)) (E r)) (N (r + 1)) v) j := fun j hj => by
      by_cases sj : S (E (r + 1) j)
      · exact Or.inl sj
      refine Or.inr ?_
      rw [ap_ap (hC.1 r) (hs r)]
      have h3 : p ∣ cf9 (bd9 h (bd9 D (cmb9 (E (r + 1)) (N (r + 1)) v))) (E (r + 1) j) := by
        have q := hD0 (E (r + 1) j)
        have e := ap_ap (g := h) (E'' := E (r + 1)) (v := v) (hC.1 (r + 2)) (hC.2.1 (r + 1)) j
        rw [ap_mt] at e
        rw [← e]
        exact q
      have e1 : ∀ f g : gn9 → fc9, cf9 (bd9 g (bd9 f (cmb9 (E (r + 1)) (N (r + 1)) v))) (E (r + 1) j) = sN9 (fun i => v i * cf9 (bd9 g (f (E (r + 1) i))) (E (r + 1) j)) (N (r + 1)) := fun f g => by
        rw [cf_bd, sm_bd, sm_cm]
        exact sN_cg (fun i _ => by rw [cf_bd])
      have h4 : p ∣ sN9 (fun i => v i * (cf9 (bd9 D (h (E (r + 1) i))) (E (r + 1) j) + cf9 (bd9 h (D (E (r + 1) i))) (E (r + 1) j) - id9 (E (r + 1) j) (E (r + 1) i))) (N (r + 1)) := dvN (fun i hi9 => by
        by_cases si : S (E (r + 1) i)
        · -- all three are 0
          have z1 : cf9 (bd9 D (h (E (r + 1) i))) (E (r + 1) j) = 0 := (bd_q (f := D) (hS r i hi9 si)) (E (r + 1) j)
          have z2 : cf9 (bd9 h (D (E (r + 1) i))) (E (r + 1) j) = 0 := by
            have c := cm_cf (hC.1 (r + 2)) (hC.2.1 (r + 1) i hi9)
            rw [← bd_q (f := h) c (E (r + 1) j), cf_bd, sm_cm]
            have : sN9 (fun t => cf9 (D (E (r + 1) i)) (E (r + 2) t) * cf9 (h (E (r + 2) t)) (E (r + 1) j)) (N (r + 2)) = sN9 (fun _ => 0) (N (r + 2)) := sN_cg (fun t ht => by
              rcases sD (r + 1) i t hi9 ht si with k | k
              · have h9 : cf9 (h (E (r + 2) t)) (E (r + 1) j) = 0 := hS (r + 1) t ht k _
                rw [h9, Int.mul_zero]
              · rw [k, Int.zero_mul])
            rw [this]
            exact sN_0
          have z3 : id9 (E (r + 1) j) (E (r + 1) i) = 0 := id_n (fun h9 => sj (by rw [← h9]; exact si))
          show p ∣ v i * (cf9 (bd9 D (h (E (r + 1) i))) (E (r + 1) j) + cf9 (bd9 h (D (E (r + 1) i))) (E (r + 1) j) - id9 (E (r + 1) j) (E (r + 1) i))
          rw [z1, z2, z3]
          exact dvr9 _ (Int.dvd_zero p)
        · rcases hh r i j hi9 hj with k | k | k
          · exact absurd k si
          · exact absurd k sj
          · rw [cf_a] at k
            show p ∣ v i * (cf9 (bd9 D (h (E (r + 1) i))) (E (r + 1) j) + cf9 (bd9 h (D (E (r + 1) i))) (E (r + 1) j) - id9 (E (r + 1) j) (E (r + 1) i))
            rw [k, Int.sub_self]
            exact dvr9 _ (Int.dvd_zero p))
      have e2 : sN9 (fun i => v i * (cf9 (bd9 D (h (E (r + 1) i))) (E (r + 1) j) + cf9 (bd9 h (D (E (r + 1) i))) (E (r + 1) j) - id9 (E (r + 1) j) (E (r + 1) i))) (N (r + 1)) = cf9 (bd9 D (bd9 h (cmb9 (E (r + 1)) (N (r + 1)) v))) (E (r + 1) j) + cf9 (bd9 h (bd9 D (cmb9 (E (r + 1)) (N (r + 1)) v))) (E (r + 1) j) - v j := by
        rw [e1 h D, e1 D h, ← cf_cy (v := v) (hC.1 (r + 1)) hj, cf_cm, ← sN_a, sN_sub]
        refine sN_cg (fun i _ => ?_)
        rw [Int.mul_sub, Int.mul_add]
      rw [e2] at h4
      have := Int.dvd_neg.mpr (Int.dvd_sub h4 h3)
      rw [show -(cf9 (bd9 D (bd9 h (cmb9 (E (r + 1)) (N (r + 1)) v))) (E (r + 1) j) + cf9 (bd9 h (bd9 D (cmb9 (E (r + 1)) (N (r + 1)) v))) (E (r + 1) j) - v j - cf9 (bd9 h (bd9 D (cmb9 (E (r + 1)) (N (r + 1)) v))) (E (r + 1) j)) = v j - cf9 (bd9 D (bd9 h (cmb9 (E (r + 1)) (N (r + 1)) v))) (E (r + 1) j) by omega] at this
      exact this
    obtain ⟨t, ht⟩ := fS (r + 1) (fun j => v j - ap9 (mtx9 D (E r) (E (r + 1))) (N r) (ap9 (mtx9 h (E (r + 1)) (E r)) (N (r + 1)) v) j) key
    refine ⟨t, ap9 (mtx9 h (E (r + 1)) (E r)) (N (r + 1)) v, fun i hi9 => ?_⟩
    have := ht i hi9
    show p ∣ v i - (ap9 (mtx9 f (E' (r + 1)) (E (r + 1))) (N' (r + 1)) t i + ap9 (mtx9 D (E r) (E (r + 1))) (N r) (ap9 (mtx9 h (E (r + 1)) (E r)) (N (r + 1)) v) i)
    rw [ap_mt (f := f)]
    show p ∣ v i - (cf9 (bd9 f (cmb9 (E' (r + 1)) (N' (r + 1)) t)) (E (r + 1) i) + ap9 (mtx9 D (E r) (E (r + 1))) (N r) (ap9 (mtx9 h (E (r + 1)) (E r)) (N (r + 1)) v) i)
    rw [show v i - (cf9 (bd9 f (cmb9 (E' (r + 1)) (N' (r + 1)) t)) (E (r + 1) i) + ap9 (mtx9 D (E r) (E (r + 1))) (N r) (ap9 (mtx9 h (E (r + 1)) (E r)) (N (r + 1)) v) i) = v i - ap9 (mtx9 D (E r) (E (r + 1))) (N r) (ap9 (mtx9 h (E (r + 1)) (E r)) (N (r + 1)) v) i - cf9 (bd9 f (cmb9 (E' (r + 1)) (N' (r + 1)) t)) (E (r + 1) i) by omega]
    exact this
  have ch : ∀ r (v : vc9), zq9 p (N (r + 1)) (ap9 (mtx9 f (E' (r + 1)) (E (r + 1))) (N' (r + 1)) (ap9 (mtx9 D' (E' r) (E' (r + 1))) (N' r) v)) (ap9 (mtx9 D (E r) (E (r + 1))) (N r) (ap9 (mtx9 f (E' r) (E r)) (N' r) v)) := fun r v => zq_of (fun j _ => by
    rw [ap_ap (hC'.1 (r + 1)) (hC'.2.1 r), ap_ap (hC.1 r) (fs r)]
    exact bb_q (fc r) _)
  have inj : ∀ r v, zq9 p (N r) (ap9 (mtx9 f (E' r) (E r)) (N' r) v) (fun _ => 0) → zq9 p (N' r) v (fun _ => 0) := fun r v h9 => fi r v (by
    rw [ap_fun] at h9
    exact h9)
  refine quo9 (f0 := mtx9 f (E' r) (E r)) (f1 := mtx9 f (E' (r + 1)) (E (r + 1))) (f2 := mtx9 f (E' (r + 2)) (E (r + 2))) hp hi (cx_dd hC r) (cx_dd hC' r) (ch r) (ch (r + 1)) (inj (r + 1)) (inj (r + 2)) (ex r) (fun v u hv => ?_)
  cases r with
  | zero =>
    refine ⟨fun _ => 0, ?_⟩
    rw [h0]
    exact zq_r
  | succ r =>
    obtain ⟨t, w, h1⟩ := ex r v u hv
    refine ⟨t, zq_t (ap_q h1) (fun j hj => ?_)⟩
    rw [ap_add]
    have := cx_dd (p := p) hC r w j hj
    rw [show ap9 (mtx9 D (E (r + 1)) (E (r + 1 + 1))) (N (r + 1)) (ap9 (mtx9 f (E' (r + 1)) (E (r + 1))) (N' (r + 1)) t) j + ap9 (mtx9 D (E (r + 1)) (E (r + 1 + 1))) (N (r + 1)) (ap9 (mtx9 D (E r) (E (r + 1))) (N r) w) j - ap9 (mtx9 D (E (r + 1)) (E (r + 1 + 1))) (N (r + 1)) (ap9 (mtx9 f (E' (r + 1)) (E (r + 1))) (N' (r + 1)) t) j = ap9 (mtx9 D (E (r + 1)) (E (r + 1 + 1))) (N (r + 1)) (ap9 (mtx9 D (E r) (E (r + 1))) (N r) w) j - 0 by omega]
    exact this
end XCHC
end
section
/-! 99zzzzzzzzzzzzzzzzyj.xch8 -/
/-! chain: a kink whose loop is apart before it is turned -/
def off9 (s : Nat → Bool) (x : Nat) : Nat → Bool := fun y => if y = x then false else s y
def clr9 (m : Nat → Bool) (o : Nat) : Nat → Bool := fun g => if g = o then false else m g
def rh9 (n o : Nat) (γ : gn9) : gn9 := (off9 γ.1 n, clr9 γ.2 o)
def vl9 (rel : (Nat → Bool) → Nat → Nat → Prop) (γ : gn9) : Prop := ∀ g h, rel γ.1 g h → γ.2 g = γ.2 h
section XCHD
variable {n o : Nat} {P1 P2 P3 : Nat → Nat} {rel : (Nat → Bool) → Nat → Nat → Prop} {f : gn9 → fc9} {κ : gn9 → gn9} {l : fc9} {c : Int} {γ : gn9}
theorem off_f {s : Nat → Bool} {x : Nat} (h : s x = false) : off9 s x = s := funext (fun y => by
  unfold off9
  by_cases e : y = x
  · rw [if_pos e, e, h]
  · rw [if_neg e])
theorem off_x {s : Nat → Bool} {x : Nat} : off9 s x x = false := if_pos rfl
theorem off_o {s : Nat → Bool} {x y : Nat} (h : y ≠ x) : off9 s x y = s y := if_neg h
theorem on_off {s : Nat → Bool} {x : Nat} (h : s x = true) : on9 (off9 s x) x = s := funext (fun y => by
  unfold on9 off9
  by_cases e : y = x
  · rw [if_pos e, e, h]
  · rw [if_neg e, if_neg e])
theorem off_on {s : Nat → Bool} {x y : Nat} (h : y ≠ x) : off9 (on9 s y) x = on9 (off9 s x) y := funext (fun z => by
  unfold on9 off9
  by_cases e : z = x
  · rw [if_pos e, if_pos e, if_neg (fun h9 => h (h9.symm.trans e))]
  · rw [if_neg e, if_neg e])
theorem off_on2 {s : Nat → Bool} {x : Nat} (h : s x = false) : off9 (on9 s x) x = s := funext (fun z => by
  by_cases e : z = x
  · rw [e, off_x, h]
  · rw [off_o e, on_o e])
theorem clr_o (m : Nat → Bool) (o : Nat) : clr9 m o o = false := if_pos rfl
theorem clr_n {m : Nat → Bool} {o g : Nat} (h : g ≠ o) : clr9 m o g = m g := if_neg h
theorem par_off {s : Nat → Bool} {x : Nat} : ∀ {y : Nat}, y ≤ x → par9 (off9 s x) y = par9 s y
  | 0, _ => rfl
  | y + 1, h => by
    show (if off9 s x y = true then -par9 (off9 s x) y else par9 (off9 s x) y) = if s y = true then -par9 s y else par9 s y
    rw [off_o (by omega), par_off (by omega)]
theorem par_2 (s : Nat → Bool) : ∀ x, par9 s x * par9 s x = 1
  | 0 => rfl
  | x + 1 => by
    show (if s x = true then -par9 s x else par9 s x) * (if s x = true then -par9 s x else par9 s x) = 1
    split
    · rw [Int.neg_mul_neg]
      exact par_2 s x
    · exact par_2 s x
theorem bd_map (h : ∀ q, q ∈ l → f q.2 = [(c, κ q.2)]) : eq9 (bd9 f l) (scf9 c (l.map (fun q => (q.1, κ q.2)))) := fun γ => by
  rw [cf_bd, cf_sc]
  induction l with
  | nil => exact (Int.mul_zero c).symm
  | cons q l ih =>
    show q.1 * cf9 (f q.2) γ + smf9 (fun δ => cf9 (f δ) γ) l = c * (q.1 * id9 γ (κ q.2) + cf9 (l.map (fun q => (q.1, κ q.2))) γ)
    rw [ih (fun t ht => h t (List.mem_cons_of_mem _ ht)), h q List.mem_cons_self]
    show q.1 * (c * id9 γ (κ q.2) + 0) + _ = _
    rw [Int.add_zero, Int.mul_add, ← Int.mul_assoc, ← Int.mul_assoc, Int.mul_comm q.1 c]
theorem bd_nil (h : ∀ q, q ∈ l → f q.2 = []) : eq9 (bd9 f l) [] := fun γ => by
  rw [cf_bd]
  induction l with
  | nil => rfl
  | cons q l ih =>
    show q.1 * cf9 (f q.2) γ + smf9 (fun δ => cf9 (f δ) γ) l = 0
    rw [ih (fun t ht => h t (List.mem_cons_of_mem _ ht)), h q List.mem_cons_self]
    show q.1 * 0 + 0 = 0
    rw [Int.mul_zero]
    rfl
/-- what D's terms look like -/
theorem Dx_st {x : Nat} {q : Int × gn9} (h : q ∈ Dx9 P1 P2 P3 rel x γ) : q.2.1 = on9 γ.1 x := by
  unfold Dx9 at h
  split at h
  · split at h
    · rw [List.mem_singleton.mp h]
    · rcases List.mem_cons.mp h with e | e
      · rw [e]
      · rw [List.mem_singleton.mp e]
  · split at h
    · exact absurd h List.not_mem_nil
    · rw [List.mem_singleton.mp h]
theorem D_st {q : Int × gn9} : ∀ {k : Nat}, q ∈ D9 P1 P2 P3 rel k γ → ∃ y, y < k ∧ γ.1 y = false ∧ q.2.1 = on9 γ.1 y ∧ ∃ c, (c, q.2) ∈ Dx9 P1 P2 P3 rel y γ
  | 0, h => absurd h List.not_mem_nil
  | k + 1, h => by
    rcases List.mem_append.mp h with h1 | h1
    · obtain ⟨y, a, b⟩ := D_st h1
      exact ⟨y, by omega, b⟩
    · by_cases c : γ.1 k = true
      · rw [if_pos c] at h1
        exact absurd h1 List.not_mem_nil
      · rw [if_neg c] at h1
        obtain ⟨r, h2, rfl⟩ := List.mem_map.mp h1
        exact ⟨k, by omega, by cases h : γ.1 k <;> simp_all, show r.2.1 = on9 γ.1 k from Dx_st h2, r.1, h2⟩
end XCHD
end
section
/-! 99zzzzzzzzzzzzzzzzyk.xch9 -/
-- CHAIN: groups as sets of generators; quotient, subgroup, likeness
def en9 (S : gn9 → Prop) (E : Nat → gn9) (N : Nat) : Prop := inj9 E N ∧ ∀ γ, S γ ↔ ∃ i, i < N ∧ γ = E i
def su9 (l : fc9) (S : gn9 → Prop) : Prop := ∀ γ, cf9 l γ ≠ 0 → S γ
def cg9 (S : Nat → gn9 → Prop) (D : gn9 → fc9) : Prop := (∀ r γ, S r γ → su9 (D γ) (S (r + 1))) ∧ ∀ r γ, S r γ → eq9 (bd9 D (D γ)) []
def fi9 (S : Nat → gn9 → Prop) : Prop := ∀ r, ∃ E N, en9 (S r) E N
/-- b is what is left of group r + 1 -/
def be9 (p : Int) (S : Nat → gn9 → Prop) (D : gn9 → fc9) (r : Nat) (b : Int) : Prop := ∃ E N, (∀ r, en9 (S r) (E r) (N r)) ∧ (N (r + 1) : Int) = b + rn9 p E N D (r + 1) + rn9 p E N D r
noncomputable def flt9 (K : gn9 → Prop) (l : fc9) : fc9 := l.filter (fun q => !dcb (K q.2))
section XCHE
variable {p : Int} {S S' : Nat → gn9 → Prop} {D D' h : gn9 → fc9} {K C : gn9 → Prop} {l : fc9} {b : Int}
theorem sN_sg {f : Nat → Int} {j : Nat} : ∀ {n : Nat}, j < n → (∀ i, i < n → i ≠ j → f i = 0) → sN9 f n = f j
  | 0, h, _ => absurd h (Nat.not_lt_zero _)
  | n + 1, h, h0 => by
    show sN9 f n + f n = f j
    by_cases e : j = n
    · have : sN9 f n = sN9 (fun _ => 0) n := sN_cg (fun i hi => h0 i (by omega) (by omega))
      rw [this, sN_0, e]
      omega
    · rw [sN_sg (n := n) (by omega) (fun i hi hne => h0 i (by omega) hne), h0 n (by omega) (fun h9 => e h9.symm)]
      omega
theorem cf_cb {f : gn9 → fc9} {E : Nat → gn9} {n : Nat} {v : vc9} (δ : gn9) : cf9 (bd9 f (cmb9 E n v)) δ = sN9 (fun i => v i * cf9 (f (E i)) δ) n := by
  rw [cf_bd, sm_cm]
theorem en_sp {S : gn9 → Prop} {E : Nat → gn9} {N : Nat} (he : en9 S E N) (h : su9 l S) : spt9 l E N := fun γ hγ => (he.2 γ).mp (h γ hγ)
theorem en_at {S : gn9 → Prop} {E : Nat → gn9} {N i : Nat} (he : en9 S E N) (hi : i < N) : S (E i) := (he.2 _).mpr ⟨i, hi, rfl⟩
theorem cg_cx {E : Nat → Nat → gn9} {N : Nat → Nat} (he : ∀ r, en9 (S r) (E r) (N r)) (hC : cg9 S D) : cx9 E N D := ⟨fun r => (he r).1, fun r i hi => en_sp (he (r + 1)) (hC.1 r _ (en_at (he r) hi)), fun r i hi => hC.2 r _ (en_at (he r) hi)⟩
theorem cf_1 (c : Int) (γ δ : gn9) : cf9 [(c, γ)] δ = c * id9 δ γ := Int.add_zero _
theorem cf_fl : ∀ {l : fc9} (γ : gn9), cf9 (flt9 K l) γ = @ite _ (K γ) (Classical.propDecidable _) 0 (cf9 l γ)
  | [], γ => by
    show (0 : Int) = @ite _ (K γ) (Classical.propDecidable _) 0 0
    by_cases c : K γ
    · rw [if_pos c]
    · rw [if_neg c]
  | q :: l, γ => by
    have ih := cf_fl (l := l) γ
    have e1 : cf9 (q :: l) γ = q.1 * id9 γ q.2 + cf9 l γ := rfl
    by_cases c : K q.2
    · have e : flt9 K (q :: l) = flt9 K l := List.filter_cons_of_neg (by rw [dcb_t.mpr c]; decide)
      rw [e, ih, e1]
      by_cases c2 : K γ
      · rw [if_pos c2, if_pos c2]
      · rw [if_neg c2, if_neg c2, id_n (show q.2 ≠ γ from fun h9 => c2 (h9 ▸ c)), Int.mul_zero, Int.zero_add]
    · have e : flt9 K (q :: l) = q :: flt9 K l := List.filter_cons_of_pos (by rw [dcb_f.mpr c]; rfl)
      have e2 : cf9 (q :: flt9 K l) γ = q.1 * id9 γ q.2 + cf9 (flt9 K l) γ := rfl
      rw [e, e2, ih, e1]
      by_cases c2 : K γ
      · rw [if_pos c2, if_pos c2, id_n (show q.2 ≠ γ from fun h9 => c (h9.symm ▸ c2)), Int.mul_zero, Int.zero_add]
      · rw [if_neg c2, if_neg c2]
theorem cf_fy {γ' : gn9} (hk : K γ') : cf9 (flt9 K l) γ' = 0 := by rw [cf_fl, if_pos hk]
theorem cf_fn {γ' : gn9} (hk : ¬ K γ') : cf9 (flt9 K l) γ' = cf9 l γ' := by rw [cf_fl, if_neg hk]
/-- sums over what has a number -/
theorem bd_su {f g : gn9 → fc9} (δ : gn9) (h : ∀ γ, cf9 l γ ≠ 0 → cf9 (f γ) δ = cf9 (g γ) δ) : cf9 (bd9 f l) δ = cf9 (bd9 g l) δ := by
  -- all that has number 0 does not count
  have key : ∀ (φ : gn9 → Int) (l : fc9), (∀ γ, cf9 l γ ≠ 0 → φ γ = 0) → smf9 φ l = 0 := fun φ l hφ => by
    generalize hk : l.length = k
    induction k using Nat.strongRecOn generalizing l with
    | ind k ih =>
      cases l with
      | nil => rfl
      | cons q l =>
        -- all of q.2 gathered
        have part : ∀ (l : fc9), smf9 φ l = cf9 l q.2 * φ q.2 + smf9 φ (flt9 (fun δ => δ = q.2) l) := fun l => by
          induction l with
          | nil => show (0 : Int) = 0 * φ q.2 + 0; omega
          | cons t l ih2 =>
            have e1 : cf9 (t :: l) q.2 = t.1 * id9 q.2 t.2 + cf9 l q.2 := rfl
            have e2 : smf9 φ (t :: l) = t.1 * φ t.2 + smf9 φ l := rfl
            by_cases c : t.2 = q.2
            · have e : flt9 (fun δ => δ = q.2) (t :: l) = flt9 (fun δ => δ = q.2) l := List.filter_cons_of_neg (by rw [dcb_t.mpr c]; decide)
              rw [e, e1, e2, ih2, c, id_y, Int.add_mul, Int.mul_one]
              omega
            · have e : flt9 (fun δ => δ = q.2) (t :: l) = t :: flt9 (fun δ => δ = q.2) l := List.filter_cons_of_pos (by rw [dcb_f.mpr c]; rfl)
              have e3 : smf9 φ (t :: flt9 (fun δ => δ = q.2) l) = t.1 * φ t.2 + smf9 φ (flt9 (fun δ => δ = q.2) l) := rfl
              rw [e, e1, e2, e3, ih2, id_n c, Int.mul_zero, Int.zero_add]
              omega
        rw [part]
        have h1 : cf9 (q :: l) q.2 * φ q.2 = 0 := by
          by_cases c : cf9 (q :: l) q.2 = 0
          · rw [c, Int.zero_mul]
          · rw [hφ _ c, Int.mul_zero]
        have h2 : flt9 (fun δ => δ = q.2) (q :: l) = flt9 (fun δ => δ = q.2) l := List.filter_cons_of_neg (by rw [dcb_t.mpr rfl]; decide)
        rw [h1, h2, Int.zero_add]
        refine ih (flt9 (fun δ => δ = q.2) l).length ?_ _ (fun γ hγ => ?_) rfl
        · have : (flt9 (fun δ => δ = q.2) l).length ≤ l.length := List.length_filter_le _ _
          rw [← hk]
          show _ < l.length + 1
          omega
        · refine hφ γ (fun h9 => hγ ?_)
          by_cases c : γ = q.2
          · exact cf_fy c
          · rw [cf_fn (K := fun δ => δ = q.2) c]
            have e1 : cf9 (q :: l) γ = q.1 * id9 γ q.2 + cf9 l γ := rfl
            rw [e1, id_n (fun h8 => c h8.symm), Int.mul_zero, Int.zero_add] at h9
            exact h9
  rw [cf_bd, cf_bd]
  have d := key (fun γ => cf9 (f γ) δ - cf9 (g γ) δ) l (fun γ hγ => by
    show cf9 (f γ) δ - cf9 (g γ) δ = 0
    rw [h γ hγ]
    omega)
  have lin : ∀ l : fc9, smf9 (fun γ => cf9 (f γ) δ - cf9 (g γ) δ) l = smf9 (fun γ => cf9 (f γ) δ) l - smf9 (fun γ => cf9 (g γ) δ) l := fun l => by
    induction l with
    | nil => rfl
    | cons q l ih =>
      show q.1 * (cf9 (f q.2) δ - cf9 (g q.2) δ) + smf9 (fun γ => cf9 (f γ) δ - cf9 (g γ) δ) l = q.1 * cf9 (f q.2) δ + smf9 (fun γ => cf9 (f γ) δ) l - (q.1 * cf9 (g q.2) δ + smf9 (fun γ => cf9 (g γ) δ) l)
      rw [ih, Int.mul_sub]
      omega
  rw [lin] at d
  omega
theorem bd_id (l : fc9) (δ : gn9) : cf9 (bd9 (fun γ => [(1, γ)]) l) δ = cf9 l δ := by
  rw [cf_bd]
  induction l with
  | nil => rfl
  | cons q l ih =>
    show q.1 * cf9 [(1, q.2)] δ + smf9 (fun γ => cf9 [(1, γ)] δ) l = q.1 * id9 δ q.2 + cf9 l δ
    rw [ih, cf_1, Int.one_mul]
end XCHE
end
section
/-! 99zzzzzzzzzzzzzzzzyl.xcha -/
-- CHAIN: quotient by an acyclic subgroup, subgroup with an acyclic rest, likeness
section XCHF
variable {p : Int} {S S' : Nat → gn9 → Prop} {D D' h : gn9 → fc9} {K C : gn9 → Prop} {l : fc9} {b : Int} {E' : Nat → Nat → gn9} {N' : Nat → Nat}
theorem flt_bd (l : fc9) (δ : gn9) : cf9 (bd9 (fun γ => flt9 K [(1, γ)]) l) δ = cf9 (flt9 K l) δ := by
  by_cases c : K δ
  · rw [cf_fy c]
    have e : cf9 (bd9 (fun γ => flt9 K [(1, γ)]) l) δ = cf9 (bd9 (fun _ => []) l) δ := bd_su δ (fun γ _ => by
      rw [cf_fy c]
      rfl)
    rw [e]
    exact bd_nil (fun q _ => rfl) δ
  · rw [cf_fn c]
    have e : cf9 (bd9 (fun γ => flt9 K [(1, γ)]) l) δ = cf9 (bd9 (fun γ => [(1, γ)]) l) δ := bd_su δ (fun γ _ => cf_fn c)
    rw [e]
    exact bd_id l δ
theorem bb_c {f g : gn9 → fc9} (l : fc9) (δ : gn9) : cf9 (bd9 g (bd9 f l)) δ = cf9 (bd9 (fun ε => bd9 g (f ε)) l) δ := by
  rw [cf_bd, sm_bd, cf_bd]
  have e : (fun γ => smf9 (fun δ_1 => cf9 (g δ_1) δ) (f γ)) = fun γ => cf9 (bd9 g (f γ)) δ := funext (fun γ => (cf_bd δ).symm)
  rw [e]
theorem quoK (hp : pr9 p) (hi : iv9 p) (hC : cg9 S D) (hk : ∀ r γ, S r γ → K γ → su9 (D γ) K) (hs : ∀ r γ, S (r + 1) γ → su9 (h γ) (fun δ => S r δ ∧ K δ)) (hh : ∀ r γ, S (r + 1) γ → K γ → eq9 (bd9 D (h γ) ++ bd9 h (D γ)) [(1, γ)]) (r : Nat) (hb : be9 p S D r b) (he' : ∀ r, en9 (fun γ => S r γ ∧ ¬ K γ) (E' r) (N' r)) : cg9 (fun r γ => S r γ ∧ ¬ K γ) (fun γ => flt9 K (D γ)) ∧ (N' (r + 1) : Int) = b + rn9 p E' N' (fun γ => flt9 K (D γ)) (r + 1) + rn9 p E' N' (fun γ => flt9 K (D γ)) r := by
  obtain ⟨E, N, he, hN⟩ := hb
  -- the quotient is a row of groups
  have hC' : cg9 (fun r γ => S r γ ∧ ¬ K γ) (fun γ => flt9 K (D γ)) := by
    refine ⟨fun r γ hγ δ hδ => ?_, fun r γ hγ δ => ?_⟩
    · by_cases c : K δ
      · exact absurd (cf_fy c) hδ
      · rw [cf_fn c] at hδ
        exact ⟨hC.1 r γ hγ.1 δ hδ, c⟩
    · show _ = (0 : Int)
      by_cases c : K δ
      · have e : cf9 (bd9 (fun γ => flt9 K (D γ)) (flt9 K (D γ))) δ = cf9 (bd9 (fun _ => []) (flt9 K (D γ))) δ := bd_su δ (fun γ _ => by
          rw [cf_fy c]
          rfl)
        rw [e]
        exact bd_nil (fun q _ => rfl) δ
      · have e : cf9 (bd9 (fun γ => flt9 K (D γ)) (flt9 K (D γ))) δ = cf9 (bd9 D (flt9 K (D γ))) δ := bd_su δ (fun γ _ => cf_fn c)
        rw [e]
        -- what is left out lies in K
        have e2 : cf9 (bd9 D (D γ)) δ = cf9 (bd9 D (flt9 K (D γ))) δ := by
          rw [← bd_q (f := D) (flt_bd (K := K) (D γ)) δ, bb_c]
          refine bd_su δ (fun ε hε => ?_)
          show cf9 (D ε) δ = cf9 (bd9 D (flt9 K [(1, ε)])) δ
          by_cases c2 : K ε
          · have q : flt9 K [(1, ε)] = [] := List.filter_cons_of_neg (by rw [dcb_t.mpr c2]; decide)
            rw [q]
            by_cases c3 : cf9 (D ε) δ = 0
            · rw [c3]
              rfl
            · exact absurd (hk (r + 1) ε (hC.1 r γ hγ.1 ε hε) c2 δ c3) c
          · have q : flt9 K [(1, ε)] = [(1, ε)] := List.filter_cons_of_pos (by rw [dcb_f.mpr c2]; rfl)
            rw [q]
            exact (bd_1 ε δ).symm
        rw [← e2]
        exact hC.2 r γ hγ.1 δ
  refine ⟨hC', ?_⟩
  have key := subT (F := fun γ => flt9 K [(1, γ)]) (h := h) hp hi (cg_cx he hC) (cg_cx he' hC') K (fun r i hi9 => en_sp (he' r) (fun δ hδ => by
      by_cases c : K δ
      · exact absurd (cf_fy c) hδ
      · rw [cf_fn c, cf_1, Int.one_mul] at hδ
        by_cases e : E r i = δ
        · rw [← e] at c ⊢
          exact ⟨en_at (he r) hi9, c⟩
        · exact absurd (id_n e) hδ)) (fun r i hi9 δ => by
      rw [flt_bd]
      by_cases c2 : K (E r i)
      · have q : flt9 K [(1, E r i)] = [] := List.filter_cons_of_neg (by rw [dcb_t.mpr c2]; decide)
        show cf9 (flt9 K (D (E r i))) δ = cf9 (bd9 (fun γ => flt9 K (D γ)) (flt9 K [(1, E r i)])) δ
        rw [q]
        show _ = (0 : Int)
        by_cases c : K δ
        · exact cf_fy c
        · rw [cf_fn c]
          by_cases c3 : cf9 (D (E r i)) δ = 0
          · exact c3
          · exact absurd (hk r _ (en_at (he r) hi9) c2 δ c3) c
      · have q : flt9 K [(1, E r i)] = [(1, E r i)] := List.filter_cons_of_pos (by rw [dcb_f.mpr c2]; rfl)
        show cf9 (flt9 K (D (E r i))) δ = cf9 (bd9 (fun γ => flt9 K (D γ)) (flt9 K [(1, E r i)])) δ
        rw [q]
        exact (bd_1 (f := fun γ => flt9 K (D γ)) _ δ).symm) (fun r u => by
      have ch : ∀ j, ∃ i, j < N' r → i < N r ∧ E' r j = E r i := fun j => by
        by_cases c : j < N' r
        · obtain ⟨i, h1, h2⟩ := ((he r).2 _).mp (en_at (he' r) c).1
          exact ⟨i, fun _ => ⟨h1, h2⟩⟩
        · exact ⟨0, fun h9 => absurd h9 c⟩
      refine ⟨fun i => smf9 (fun δ => id9 δ (E r i)) (cmb9 (E' r) (N' r) u), fun j hj => ?_⟩
      rw [flt_bd, cf_fn (en_at (he' r) hj).2]
      obtain ⟨i, h0⟩ := ch j
      obtain ⟨h1, h2⟩ := h0 hj
      rw [h2, cf_cy (he r).1 h1, sm_cm]
      rw [sN_sg hj (fun k hk9 hne => by
        rw [id_n (fun h9 => hne ?_), Int.mul_zero]
        exact (he' r).1 k j hk9 hj (by rw [h2]; exact h9.symm))]
      rw [h2, id_y, Int.mul_one]) (fun r v hv i hi9 => by
      by_cases c : K (E r i)
      · exact Or.inl c
      · right
        obtain ⟨j, h1, h2⟩ := ((he' r).2 (E r i)).mp ⟨en_at (he r) hi9, c⟩
        have : p ∣ cf9 (bd9 (fun γ => flt9 K [(1, γ)]) (cmb9 (E r) (N r) v)) (E' r j) - 0 := hv j h1
        rw [flt_bd, cf_fn (en_at (he' r) h1).2, ← h2, cf_cy (he r).1 hi9, Int.sub_zero] at this
        exact this) (fun r i hi9 => en_sp (he r) (fun δ hδ => (hs r _ (en_at (he (r + 1)) hi9) δ hδ).1)) (fun r i hi9 δ => by
      rw [flt_bd]
      show _ = (0 : Int)
      by_cases c : K δ
      · exact cf_fy c
      · rw [cf_fn c]
        by_cases c3 : cf9 (h (E (r + 1) i)) δ = 0
        · exact c3
        · exact absurd (hs r _ (en_at (he (r + 1)) hi9) δ c3).2 c) (fun r i hi9 hK => hh r _ (en_at (he (r + 1)) hi9) hK) r
  omega
theorem subC (hp : pr9 p) (hi : iv9 p) (hC : cg9 S D) (h0 : ∀ γ, ¬ S 0 γ) (hk : ∀ r γ, S r γ → C γ → su9 (D γ) C) (hs : ∀ r γ, S (r + 1) γ → su9 (h γ) (S r)) (hc : ∀ r γ, S (r + 1) γ → C γ → eq9 (h γ) []) (hh : ∀ r γ δ, S (r + 1) γ → S (r + 1) δ → ¬ C γ → ¬ C δ → cf9 (bd9 D (h γ) ++ bd9 h (D γ)) δ = id9 δ γ) (r : Nat) (hb : be9 p S D r b) (he' : ∀ r, en9 (fun γ => S r γ ∧ C γ) (E' r) (N' r)) : cg9 (fun r γ => S r γ ∧ C γ) D ∧ (N' (r + 1) : Int) = b + rn9 p E' N' D (r + 1) + rn9 p E' N' D r := by
  obtain ⟨E, N, he, hN⟩ := hb
  have hC' : cg9 (fun r γ => S r γ ∧ C γ) D := ⟨fun r γ hγ δ hδ => ⟨hC.1 r γ hγ.1 δ hδ, hk r γ hγ.1 hγ.2 δ hδ⟩, fun r γ hγ => hC.2 r γ hγ.1⟩
  refine ⟨hC', ?_⟩
  have n0 : N 0 = 0 := by
    rcases Nat.eq_zero_or_pos (N 0) with e | e
    · exact e
    · exact absurd (en_at (he 0) e) (h0 _)
  have at_ : ∀ r (v : vc9) i j, j < N' r → E r i = E' r j → cf9 (cmb9 (E' r) (N' r) v) (E r i) = v j := fun r v i j h1 h2 => by
    rw [h2]
    exact cf_cy (he' r).1 h1
  have no_ : ∀ r (v : vc9) i, i < N r → ¬ C (E r i) → cf9 (cmb9 (E' r) (N' r) v) (E r i) = 0 := fun r v i hi9 hn => cf_cn (fun j hj h9 => hn (h9 ▸ (en_at (he' r) hj).2))
  have key := quoT (f := fun γ => [(1, γ)]) (h := h) hp hi (cg_cx he hC) (cg_cx he' hC') n0 C (fun r i hi9 => en_sp (he r) (fun δ hδ => by
      rw [cf_1, Int.one_mul] at hδ
      by_cases e : E' r i = δ
      · rw [← e]
        exact (en_at (he' r) hi9).1
      · exact absurd (id_n e) hδ)) (fun r i hi9 δ => by
      rw [bd_id]
      exact (bd_1 (f := D) _ δ).symm) (fun r v hv j hj => by
      obtain ⟨i, h1, h2⟩ := ((he r).2 _).mp (en_at (he' r) hj).1
      have q : p ∣ cf9 (bd9 (fun γ => [(1, γ)]) (cmb9 (E' r) (N' r) v)) (E r i) - 0 := hv i h1
      rw [bd_id, at_ r v i j hj h2.symm] at q
      exact q) (fun r u hu => by
      refine ⟨fun j => cf9 (cmb9 (E r) (N r) u) (E' r j), fun i hi9 => ?_⟩
      show p ∣ u i - cf9 (bd9 (fun γ => [(1, γ)]) (cmb9 (E' r) (N' r) (fun j => cf9 (cmb9 (E r) (N r) u) (E' r j)))) (E r i)
      rw [bd_id]
      by_cases c : C (E r i)
      · obtain ⟨j, h1, h2⟩ := ((he' r).2 (E r i)).mp ⟨en_at (he r) hi9, c⟩
        rw [at_ r _ i j h1 h2, ← h2, cf_cy (he r).1 hi9, Int.sub_self]
        exact Int.dvd_zero p
      · rw [no_ r _ i hi9 c, Int.sub_zero]
        rcases hu i hi9 with k | k
        · exact absurd k c
        · exact k) (fun r v j hj => by
      by_cases c : C (E r j)
      · exact Or.inl c
      · right
        rw [bd_id]
        exact no_ r v j hj c) (fun r i hi9 => en_sp (he r) (hs r _ (en_at (he (r + 1)) hi9))) (fun r i hi9 hS => hc r _ (en_at (he (r + 1)) hi9) hS) (fun r i j hi9 hj hS => by
      by_cases c : cf9 (D (E r i)) (E (r + 1) j) = 0
      · exact Or.inr c
      · exact Or.inl (hk r _ (en_at (he r) hi9) hS _ c)) (fun r i j hi9 hj => by
      by_cases c : C (E (r + 1) i)
      · exact Or.inl c
      · by_cases c2 : C (E (r + 1) j)
        · exact Or.inr (Or.inl c2)
        · exact Or.inr (Or.inr (hh r _ _ (en_at (he (r + 1)) hi9) (en_at (he (r + 1)) hj) c c2))) r
  omega
/-- one group for the other, a generator for a generator -/
theorem isoT (hp : pr9 p) (hi : iv9 p) (hC : cg9 S D) (hC' : cg9 S' D') (κ ι : gn9 → gn9) (ε : gn9 → Int) (hε : ∀ γ, ε γ * ε γ = 1) (k1 : ∀ r γ, S r γ → S' r (κ γ) ∧ ι (κ γ) = γ) (k2 : ∀ r γ, S' r γ → S r (ι γ) ∧ κ (ι γ) = γ) (kc : ∀ r γ, S r γ → eq9 (bd9 (fun δ => [(ε δ, κ δ)]) (D γ)) (scf9 (ε γ) (D' (κ γ)))) (r : Nat) (hb : be9 p S D r b) (he' : ∀ r, en9 (S' r) (E' r) (N' r)) : (N' (r + 1) : Int) = b + rn9 p E' N' D' (r + 1) + rn9 p E' N' D' r := by
  obtain ⟨E, N, he, hN⟩ := hb
  have cfk : ∀ r (v : vc9) i, i < N r → cf9 (bd9 (fun δ => [(ε δ, κ δ)]) (cmb9 (E r) (N r) v)) (κ (E r i)) = v i * ε (E r i) := fun r v i hi9 => by
    rw [cf_cb, sN_sg hi9 (fun k hk9 hne => by
      rw [cf_1, id_n (fun h9 => hne ?_), Int.mul_zero, Int.mul_zero]
      refine (he r).1 k i hk9 hi9 ?_
      rw [← (k1 r _ (en_at (he r) hk9)).2, h9, (k1 r _ (en_at (he r) hi9)).2])]
    rw [cf_1, id_y, Int.mul_one]
  have ix : ∀ r j, j < N' r → ∃ i, i < N r ∧ E' r j = κ (E r i) := fun r j hj => by
    obtain ⟨q1, q2⟩ := k2 r _ (en_at (he' r) hj)
    obtain ⟨i, h1, h2⟩ := ((he r).2 _).mp q1
    exact ⟨i, h1, by rw [← h2, q2]⟩
  have key := subT (F := fun δ => [(ε δ, κ δ)]) (h := fun _ => []) hp hi (cg_cx he hC) (cg_cx he' hC') (fun _ => False) (fun r i hi9 => en_sp (he' r) (fun δ hδ => by
      rw [cf_1] at hδ
      by_cases e : κ (E r i) = δ
      · rw [← e]
        exact (k1 r _ (en_at (he r) hi9)).1
      · exact absurd (by rw [id_n e, Int.mul_zero]) hδ)) (fun r i hi9 δ => by
      rw [kc r _ (en_at (he r) hi9) δ, cf_sc, cf_bd]
      show _ = ε (E r i) * cf9 (D' (κ (E r i))) δ + 0
      omega) (fun r u => by
      refine ⟨fun i => ε (E r i) * smf9 (fun δ => id9 δ (κ (E r i))) (cmb9 (E' r) (N' r) u), fun j hj => ?_⟩
      obtain ⟨i, h1, h2⟩ := ix r j hj
      rw [h2, cfk r _ i h1]
      show ε (E r i) * smf9 (fun δ => id9 δ (κ (E r i))) (cmb9 (E' r) (N' r) u) * ε (E r i) = u j
      rw [Int.mul_comm, ← Int.mul_assoc, hε, Int.one_mul, sm_cm]
      rw [sN_sg hj (fun k hk9 hne => by
        rw [id_n (fun h9 => hne ?_), Int.mul_zero]
        exact (he' r).1 k j hk9 hj (by rw [h2]; exact h9.symm))]
      rw [h2, id_y, Int.mul_one]) (fun r v hv i hi9 => by
      right
      obtain ⟨j, h1, h2⟩ := ((he' r).2 _).mp (k1 r _ (en_at (he r) hi9)).1
      have q : p ∣ cf9 (bd9 (fun δ => [(ε δ, κ δ)]) (cmb9 (E r) (N r) v)) (E' r j) - 0 := hv j h1
      rw [← h2, cfk r v i hi9, Int.sub_zero] at q
      have q2 := dvl9 (ε (E r i)) q
      rw [Int.mul_assoc, hε, Int.mul_one] at q2
      exact q2) (fun r i hi9 => en_sp (he r) (fun δ hδ => absurd rfl hδ)) (fun r i hi9 δ => rfl) (fun r i hi9 hK => absurd hK id) r
  omega
theorem be_en (hp : pr9 p) (hi : iv9 p) (hC : cg9 S D) (r : Nat) (hb : be9 p S D r b) (he' : ∀ r, en9 (S r) (E' r) (N' r)) : (N' (r + 1) : Int) = b + rn9 p E' N' D (r + 1) + rn9 p E' N' D r := isoT hp hi hC hC (fun γ => γ) (fun γ => γ) (fun _ => 1) (fun _ => rfl) (fun r γ h => ⟨h, rfl⟩) (fun r γ h => ⟨h, rfl⟩) (fun r γ _ δ => by
  rw [bd_id, cf_sc, Int.one_mul]) r hb he'
theorem be_un (hp : pr9 p) (hi : iv9 p) (hC : cg9 S D) (r : Nat) {b b' : Int} (hb : be9 p S D r b) (hb' : be9 p S D r b') : b = b' := by
  obtain ⟨E, N, he, hN⟩ := hb'
  have := be_en hp hi hC r hb he
  omega
theorem fi_en (hf : fi9 S) : ∃ (E : Nat → Nat → gn9) (N : Nat → Nat), ∀ r, en9 (S r) (E r) (N r) := ⟨fun r => (hf r).choose, fun r => (hf r).choose_spec.choose, fun r => (hf r).choose_spec.choose_spec⟩
end XCHF
end
section
/-! 99zzzzzzzzzzzzzzzzym.xchb -/
-- CHAIN: how many loops, the degree, the groups of a cube
def ld9 (R : Nat → Nat → Prop) (G : Nat → Prop) (g : Nat) : Prop := G g ∧ ∀ h, h < g → G h → ¬ R h g
noncomputable def cls9 (R : Nat → Nat → Prop) (G : Nat → Prop) (V : Nat) (Q : Nat → Prop) : Nat := cn9 (fun g => ld9 R G g ∧ Q g) V
def ons9 (s : Nat → Bool) : Nat → Nat
  | 0 => 0
  | n + 1 => ons9 s n + if s n = true then 1 else 0
noncomputable def dg9 (rel : (Nat → Bool) → Nat → Nat → Prop) (G : Nat → Prop) (V n : Nat) (γ : gn9) : Int := cls9 (rel γ.1) G V (fun _ => True) - 2 * cls9 (rel γ.1) G V (fun g => γ.2 g = true) + ons9 γ.1 n
section XCHG
variable {R R' : Nat → Nat → Prop} {G : Nat → Prop} {V : Nat} {Q Q' : Nat → Prop}
theorem ld_ex (hR : eqv9 R) : ∀ g, G g → ∃ l, ld9 R G l ∧ R l g ∧ l ≤ g := fun g => by
  induction g using Nat.strongRecOn with
  | ind g ih =>
    intro hg
    by_cases c : ∃ h, h < g ∧ G h ∧ R h g
    · obtain ⟨h, h1, h2, h3⟩ := c
      obtain ⟨l, l1, l2, l3⟩ := ih h h1 h2
      exact ⟨l, l1, hR.2.2 _ _ _ l2 h3, by omega⟩
    · exact ⟨g, ⟨hg, fun h h1 h2 h3 => c ⟨h, h1, h2, h3⟩⟩, hR.1 g, Nat.le_refl g⟩
theorem ld_un {l l' : Nat} (hR : eqv9 R) (h : ld9 R G l) (h' : ld9 R G l') (e : R l l') : l = l' := by
  rcases Nat.lt_trichotomy l l' with c | c | c
  · exact absurd e (h'.2 l c h.1)
  · exact c
  · exact absurd (hR.2.1 _ _ e) (h.2 l' c h'.1)
theorem ld_le {l g : Nat} (hR : eqv9 R) (h : ld9 R G l) (hg : G g) (e : R l g) : l ≤ g := by
  rcases Nat.lt_or_ge g l with c | c
  · exact absurd (hR.2.1 _ _ e) (h.2 g c hg)
  · exact c
theorem cl_cg (h : ∀ g, G g → (Q g ↔ Q' g)) : cls9 R G V Q = cls9 R G V Q' := cn_cg (fun g _ => ⟨fun h9 => ⟨h9.1, (h g h9.1.1).mp h9.2⟩, fun h9 => ⟨h9.1, (h g h9.1.1).mpr h9.2⟩⟩)
/-- a class more -/
theorem cl_add {b : Nat} (hR : eqv9 R) (hV : ∀ g, G g → g < V) (hb : G b) (hQ : ∀ g h, R g h → Q g → Q h) (hn : ¬ Q b) (h : ∀ g, G g → (Q' g ↔ Q g ∨ R g b)) : cls9 R G V Q' = cls9 R G V Q + 1 := by
  obtain ⟨l, l1, l2, -⟩ := ld_ex hR b hb
  refine cn_one (a := l) (hV l l1.1) (fun h9 => hn (hQ _ _ l2 h9.2)) (fun g _ => ⟨fun h9 => ?_, fun h9 => ?_⟩)
  · rcases (h g h9.1.1).mp h9.2 with k | k
    · exact Or.inl ⟨h9.1, k⟩
    · exact Or.inr (ld_un hR h9.1 l1 (hR.2.2 _ _ _ k (hR.2.1 _ _ l2)))
  · rcases h9 with k | k
    · exact ⟨k.1, (h g k.1.1).mpr (Or.inl k.2)⟩
    · rw [k]
      exact ⟨l1, (h l l1.1).mpr (Or.inr l2)⟩
/-- two classes become one -/
theorem cl_mrg {a b : Nat} (hR : eqv9 R) (hR' : ∀ g h, R' g h ↔ adr R a b g h) (hab : ¬ R a b) (hV : ∀ g, G g → g < V) (ha : G a) (hb : G b) (hQ : ∀ g h, R g h → Q g → Q h) (hq : Q a ↔ Q b) : (Q a → cls9 R G V Q = cls9 R' G V Q + 1) ∧ (¬ Q a → cls9 R G V Q = cls9 R' G V Q) := by
  -- the greater of the two least ones goes
  have key : ∀ a b, (∀ g h, R' g h ↔ adr R a b g h) → ¬ R a b → (Q a ↔ Q b) → ∀ la lb, ld9 R G la → ld9 R G lb → R la a → R lb b → la < lb → (Q a → cls9 R G V Q = cls9 R' G V Q + 1) ∧ (¬ Q a → cls9 R G V Q = cls9 R' G V Q) := fun a b hR' hab hq la lb A B ra rb lt => by
    have e : ∀ g, ld9 R' G g ↔ ld9 R G g ∧ g ≠ lb := fun g => by
      constructor
      · intro h9
        refine ⟨⟨h9.1, fun k h1 h2 h3 => h9.2 k h1 h2 ((hR' k g).mpr (Or.inl h3))⟩, fun h8 => ?_⟩
        rw [h8] at h9
        exact h9.2 la lt A.1 ((hR' la lb).mpr (Or.inr (Or.inl ⟨ra, rb⟩)))
      · rintro ⟨h9, h8⟩
        refine ⟨h9.1, fun k h1 h2 h3 => ?_⟩
        rcases (hR' k g).mp h3 with k1 | ⟨k1, k2⟩ | ⟨k1, k2⟩
        · exact h9.2 k h1 h2 k1
        · exact h8 (ld_un hR h9 B (hR.2.2 _ _ _ k2 (hR.2.1 _ _ rb)))
        · have e1 : g = la := ld_un hR h9 A (hR.2.2 _ _ _ k2 (hR.2.1 _ _ ra))
          have e2 := ld_le hR B h2 (hR.2.2 _ _ _ rb (hR.2.1 _ _ k1))
          omega
    constructor
    · intro qa
      refine cn_one (a := lb) (hV lb B.1) (fun h9 => ((e lb).mp h9.1).2 rfl) (fun g _ => ⟨fun h9 => ?_, fun h9 => ?_⟩)
      · by_cases c : g = lb
        · exact Or.inr c
        · exact Or.inl ⟨(e g).mpr ⟨h9.1, c⟩, h9.2⟩
      · rcases h9 with k | k
        · exact ⟨((e g).mp k.1).1, k.2⟩
        · rw [k]
          exact ⟨B, hQ _ _ (hR.2.1 _ _ rb) (hq.mp qa)⟩
    · intro qa
      refine cn_cg (fun g _ => ⟨fun h9 => ⟨(e g).mpr ⟨h9.1, fun h8 => ?_⟩, h9.2⟩, fun h9 => ⟨((e g).mp h9.1).1, h9.2⟩⟩)
      rw [h8] at h9
      exact qa (hq.mpr (hQ _ _ rb h9.2))
  obtain ⟨la, A, ra, -⟩ := ld_ex hR a ha
  obtain ⟨lb, B, rb, -⟩ := ld_ex hR b hb
  rcases Nat.lt_trichotomy la lb with c | c | c
  · exact key a b hR' hab hq la lb A B ra rb c
  · rw [← c] at rb
    exact absurd (hR.2.2 _ _ _ (hR.2.1 _ _ ra) rb) hab
  · have k := key b a (fun g h => (hR' g h).trans (by unfold adr; constructor <;> rintro (h9 | h9 | h9) <;> first | exact Or.inl h9 | exact Or.inr (Or.inl h9) | exact Or.inr (Or.inr h9))) (fun h9 => hab (hR.2.1 _ _ h9)) hq.symm lb la B A rb ra c
    exact ⟨fun h9 => k.1 (hq.mp h9), fun h9 => k.2 (fun h8 => h9 (hq.mpr h8))⟩
theorem ons_on {s : Nat → Bool} {x : Nat} (hs : s x = false) : ∀ {n : Nat}, x < n → ons9 (on9 s x) n = ons9 s n + 1
  | 0, h => absurd h (Nat.not_lt_zero _)
  | n + 1, h => by
    show ons9 (on9 s x) n + (if on9 s x n = true then 1 else 0) = ons9 s n + (if s n = true then 1 else 0) + 1
    by_cases e : x = n
    · rw [← e, on_x, hs, if_pos rfl, if_neg (by decide)]
      have : ∀ k, k ≤ x → ons9 (on9 s x) k = ons9 s k := fun k => by
        induction k with
        | zero => intro _; rfl
        | succ k ih =>
          intro hk
          show ons9 (on9 s x) k + (if on9 s x k = true then 1 else 0) = ons9 s k + (if s k = true then 1 else 0)
          rw [ih (by omega), on_o (by omega)]
      rw [this x (Nat.le_refl x)]
    · rw [ons_on hs (n := n) (by omega), on_o (by omega)]
      omega
end XCHG
/-- a cube over the gaps G -/
def cu9 (n V : Nat) (G : Nat → Prop) (P1 P2 P3 : Nat → Nat) (rel : (Nat → Bool) → Nat → Nat → Prop) : Prop := cub9 n P1 P2 P3 rel ∧ (∀ s, (∀ y, n ≤ y → s y = false) → ∀ g h, rel s g h → g ≠ h → G g ∧ G h) ∧ (∀ g, G g → g < V) ∧ ∀ x, x < n → G (P1 x) ∧ G (P2 x) ∧ G (P3 x)
/-- the group with r - k ones, degree d -/
def Sg9 (n V : Nat) (G : Nat → Prop) (rel : (Nat → Bool) → Nat → Nat → Prop) (k : Nat) (d : Int) (r : Nat) (γ : gn9) : Prop := (∀ y, n ≤ y → γ.1 y = false) ∧ (∀ g, ¬ G g → γ.2 g = false) ∧ vl9 rel γ ∧ ons9 γ.1 n + k = r ∧ dg9 rel G V n γ = d
section XCHH
variable {n V k r : Nat} {G : Nat → Prop} {P1 P2 P3 : Nat → Nat} {rel : (Nat → Bool) → Nat → Nat → Prop} {d c : Int} {γ δ : gn9} {l : fc9}
theorem cf_mem : ∀ {l : fc9}, cf9 l γ ≠ 0 → ∃ q, q ∈ l ∧ q.2 = γ
  | [], h => absurd rfl h
  | q :: l, h => by
    by_cases e : q.2 = γ
    · exact ⟨q, List.mem_cons_self, e⟩
    · have e1 : cf9 (q :: l) γ = q.1 * id9 γ q.2 + cf9 l γ := rfl
      rw [e1, id_n e, Int.mul_zero, Int.zero_add] at h
      obtain ⟨t, h1, h2⟩ := cf_mem h
      exact ⟨t, List.mem_cons_of_mem _ h1, h2⟩
theorem on_z {s : Nat → Bool} {x : Nat} (hx : x < n) (hs : ∀ y, n ≤ y → s y = false) : ∀ y, n ≤ y → on9 s x y = false := fun y hy => by
  rw [on_o (by omega)]
  exact hs y hy
/-- what one turned crossing makes is a generator of the same degree -/
theorem Dx_ok {x : Nat} (hC : cu9 n V G P1 P2 P3 rel) (hx : x < n) (hγ : Sg9 n V G rel k d r γ) (hs : γ.1 x = false) (h : (c, δ) ∈ Dx9 P1 P2 P3 rel x γ) : Sg9 n V G rel k d (r + 1) δ := by
  obtain ⟨z1, z2, z3, z4, z5⟩ := hγ
  obtain ⟨cC, cG, cV, cP⟩ := hC
  have st := Dx_st h
  have st : δ.1 = on9 γ.1 x := st
  have hE := cC.1 γ.1
  have hF := cC.1 (on9 γ.1 x)
  have o1 := ons_on hs hx
  obtain ⟨gp1, gp2, gp3⟩ := cP x hx
  have zt := on_z hx z1
  have outs : ∀ g, ¬ G g → ∀ a, G a → dcb (rel (on9 γ.1 x) g a) = false := fun g hg a ha => dcb_f.mpr (fun h9 => hg (cG _ zt g a h9 (fun h8 => hg (h8 ▸ ha))).1)
  have dgt : dg9 rel G V n δ = cls9 (rel (on9 γ.1 x)) G V (fun _ => True) - 2 * cls9 (rel (on9 γ.1 x)) G V (fun g => δ.2 g = true) + ons9 (on9 γ.1 x) n := by
    unfold dg9
    rw [st]
  have dgs : cls9 (rel γ.1) G V (fun _ => True) - 2 * cls9 (rel γ.1) G V (fun g => γ.2 g = true) + ons9 γ.1 n = d := z5
  have base : vl9 rel δ → (∀ g, ¬ G g → δ.2 g = false) → (cls9 (rel (on9 γ.1 x)) G V (fun _ => True) : Int) - 2 * cls9 (rel (on9 γ.1 x)) G V (fun g => δ.2 g = true) + 1 = cls9 (rel γ.1) G V (fun _ => True) - 2 * cls9 (rel γ.1) G V (fun g => γ.2 g = true) → Sg9 n V G rel k d (r + 1) δ := fun a1 a2 a3 => by
    refine ⟨fun y hy => ?_, a2, a1, ?_, ?_⟩
    · rw [st]
      exact zt y hy
    · rw [st, o1]
      omega
    · rw [dgt, o1]
      omega
  have vlq : ∀ g k, rel γ.1 g k → γ.2 g = true → γ.2 k = true := fun g k h1 h2 => by rw [← z3 g k h1]; exact h2
  have tt : ∀ (R : Nat → Nat → Prop) g k, R g k → (fun _ : Nat => True) g → (fun _ : Nat => True) k := fun _ _ _ _ _ => trivial
  unfold Dx9 at h
  rcases cC.2 γ.1 x hx hs with ⟨hm, hr⟩ | ⟨hm, hn, hr⟩
  · -- merge
    rw [if_neg (fun h9 => hm (dcb_t.mp h9))] at h
    have L := (cl_mrg (V := V) (Q := fun _ => True) hE hr hm cV gp1 gp3 (tt _) Iff.rfl).1 trivial
    split at h
    · exact absurd h List.not_mem_nil
    · rename_i hb
      have e := List.mem_singleton.mp h
      have e2 : δ.2 = fun g => γ.2 g || ((γ.2 (P1 x) || γ.2 (P3 x)) && dcb (rel (on9 γ.1 x) g (P1 x))) := by
        have := congrArg (fun q => q.2.2) e
        exact this
      have p13 : rel (on9 γ.1 x) (P1 x) (P3 x) := (hr _ _).mpr (adr_ab hE)
      have tr : ∀ g, δ.2 g = true ↔ γ.2 g = true ∨ ((γ.2 (P1 x) = true ∨ γ.2 (P3 x) = true) ∧ rel (on9 γ.1 x) g (P1 x)) := fun g => by
        rw [e2]
        show (γ.2 g || ((γ.2 (P1 x) || γ.2 (P3 x)) && dcb (rel (on9 γ.1 x) g (P1 x)))) = true ↔ _
        rw [Bool.or_eq_true, Bool.and_eq_true, Bool.or_eq_true, dcb_t]
      have val : ∀ g k, rel (on9 γ.1 x) g k → δ.2 g = true → δ.2 k = true := fun g k h1 h2 => by
        rw [tr] at h2 ⊢
        rcases h2 with h2 | ⟨h2, h3⟩
        · rcases (hr g k).mp h1 with k1 | ⟨k1, k2⟩ | ⟨k1, k2⟩
          · exact Or.inl (vlq _ _ k1 h2)
          · exact Or.inr ⟨Or.inl (vlq _ _ k1 h2), hF.2.2 _ _ _ ((hr _ _).mpr (Or.inl k2)) (hF.2.1 _ _ p13)⟩
          · exact Or.inr ⟨Or.inr (vlq _ _ k1 h2), (hr _ _).mpr (Or.inl k2)⟩
        · exact Or.inr ⟨h2, hF.2.2 _ _ _ (hF.2.1 _ _ h1) h3⟩
      refine base (fun g k h1 => ?_) (fun g hg => ?_) ?_
      · rw [st] at h1
        exact bx ⟨val g k h1, val k g (hF.2.1 _ _ h1)⟩
      · rw [e2]
        show (γ.2 g || ((γ.2 (P1 x) || γ.2 (P3 x)) && dcb (rel (on9 γ.1 x) g (P1 x)))) = false
        rw [z2 g hg, outs g hg _ gp1, Bool.and_false]
        rfl
      · -- δ's minus over the old loops
        have up : ∀ g k, rel γ.1 g k → δ.2 g = true → δ.2 k = true := fun g k h1 h2 => val g k ((hr g k).mpr (Or.inl h1)) h2
        have d13 : δ.2 (P1 x) = true ↔ δ.2 (P3 x) = true := ⟨val _ _ p13, val _ _ (hF.2.1 _ _ p13)⟩
        have M := cl_mrg (V := V) (Q := fun g => δ.2 g = true) hE hr hm cV gp1 gp3 up d13
        -- who is in the new loop
        have side : ∀ g, rel (on9 γ.1 x) g (P1 x) ↔ rel γ.1 g (P1 x) ∨ rel γ.1 g (P3 x) := fun g => by
          constructor
          · intro h9
            rcases (hr _ _).mp h9 with k1 | ⟨k1, k2⟩ | ⟨k1, k2⟩
            · exact Or.inl k1
            · exact absurd k2 hm
            · exact Or.inr k1
          · rintro (h9 | h9)
            · exact (hr _ _).mpr (Or.inl h9)
            · exact hF.2.2 _ _ _ ((hr _ _).mpr (Or.inl h9)) (hF.2.1 _ _ p13)
        by_cases c1 : γ.2 (P1 x) = true
        · have c3 : ¬ γ.2 (P3 x) = true := fun h9 => hb ⟨c1, h9⟩
          have A := cl_add (V := V) (Q := fun g => γ.2 g = true) (Q' := fun g => δ.2 g = true) hE cV gp3 vlq c3 (fun g _ => by
            rw [tr g, side g]
            constructor
            · rintro (h9 | ⟨-, h9 | h9⟩)
              · exact Or.inl h9
              · exact Or.inl (vlq _ _ (hE.2.1 _ _ h9) c1)
              · exact Or.inr h9
            · rintro (h9 | h9)
              · exact Or.inl h9
              · exact Or.inr ⟨Or.inl c1, Or.inr h9⟩)
          have B := M.1 ((tr _).mpr (Or.inl c1))
          omega
        · by_cases c3 : γ.2 (P3 x) = true
          · have A := cl_add (V := V) (Q := fun g => γ.2 g = true) (Q' := fun g => δ.2 g = true) hE cV gp1 vlq c1 (fun g _ => by
              rw [tr g, side g]
              constructor
              · rintro (h9 | ⟨-, h9 | h9⟩)
                · exact Or.inl h9
                · exact Or.inr h9
                · exact Or.inl (vlq _ _ (hE.2.1 _ _ h9) c3)
              · rintro (h9 | h9)
                · exact Or.inl h9
                · exact Or.inr ⟨Or.inr c3, Or.inl h9⟩)
            have B := M.1 ((tr _).mpr (Or.inr ⟨Or.inr c3, hF.1 _⟩))
            omega
          · have e3 : cls9 (rel γ.1) G V (fun g => δ.2 g = true) = cls9 (rel γ.1) G V (fun g => γ.2 g = true) := cl_cg (fun g _ => by
              rw [tr g]
              constructor
              · rintro (h9 | ⟨h9 | h9, -⟩)
                · exact h9
                · exact absurd h9 c1
                · exact absurd h9 c3
              · exact Or.inl)
            have B := M.2 (fun h9 => by
              rcases (tr _).mp h9 with h8 | ⟨h8 | h8, -⟩
              · exact c1 h8
              · exact c1 h8
              · exact c3 h8)
            omega
  · -- split
    rw [if_pos (dcb_t.mpr hm)] at h
    have L := (cl_mrg (V := V) (Q := fun _ => True) hF hr hn cV gp1 gp2 (tt _) Iff.rfl).1 trivial
    have up : ∀ g k, rel (on9 γ.1 x) g k → rel γ.1 g k := fun g k h9 => (hr g k).mpr (Or.inl h9)
    have p12 : rel γ.1 (P1 x) (P2 x) := (hr _ _).mpr (adr_ab hF)
    have vlt : ∀ g k, rel (on9 γ.1 x) g k → γ.2 g = true → γ.2 k = true := fun g k h1 h2 => vlq g k (up g k h1) h2
    have d12 : γ.2 (P1 x) = true ↔ γ.2 (P2 x) = true := ⟨vlq _ _ p12, vlq _ _ (hE.2.1 _ _ p12)⟩
    have M := cl_mrg (V := V) (Q := fun g => γ.2 g = true) hF hr hn cV gp1 gp2 vlt d12
    by_cases c1 : γ.2 (P1 x) = true
    · rw [if_pos c1] at h
      have e := List.mem_singleton.mp h
      have e2 : δ.2 = γ.2 := congrArg (fun q => q.2.2) e
      refine base (fun g k h1 => ?_) (fun g hg => ?_) ?_
      · rw [st] at h1
        rw [e2]
        exact z3 g k (up g k h1)
      · rw [e2]
        exact z2 g hg
      · rw [e2]
        have B := M.1 c1
        omega
    · rw [if_neg c1] at h
      have two : ∀ a, G a → ¬ γ.2 a = true → δ.2 = (fun g => γ.2 g || dcb (rel (on9 γ.1 x) g a)) → Sg9 n V G rel k d (r + 1) δ := fun a ga na e2 => by
        have tr : ∀ g, δ.2 g = true ↔ γ.2 g = true ∨ rel (on9 γ.1 x) g a := fun g => by
          rw [e2]
          show (γ.2 g || dcb (rel (on9 γ.1 x) g a)) = true ↔ _
          rw [Bool.or_eq_true, dcb_t]
        have val : ∀ g k, rel (on9 γ.1 x) g k → δ.2 g = true → δ.2 k = true := fun g k h1 h2 => by
          rw [tr] at h2 ⊢
          rcases h2 with h2 | h2
          · exact Or.inl (vlt g k h1 h2)
          · exact Or.inr (hF.2.2 _ _ _ (hF.2.1 _ _ h1) h2)
        refine base (fun g k h1 => ?_) (fun g hg => ?_) ?_
        · rw [st] at h1
          exact bx ⟨val g k h1, val k g (hF.2.1 _ _ h1)⟩
        · rw [e2]
          show (γ.2 g || dcb (rel (on9 γ.1 x) g a)) = false
          rw [z2 g hg, outs g hg _ ga]
          rfl
        · have A := cl_add (V := V) (Q := fun g => γ.2 g = true) (Q' := fun g => δ.2 g = true) hF cV ga vlt na (fun g _ => tr g)
          have B := M.2 c1
          omega
      rcases List.mem_cons.mp h with e | e
      · exact two (P1 x) gp1 c1 (congrArg (fun q => q.2.2) e)
      · exact two (P2 x) gp2 (fun h9 => c1 (d12.mpr h9)) (congrArg (fun q => q.2.2) (List.mem_singleton.mp e))
/-- a generator is a monomial -/
theorem gn_mo (hC : cu9 n V G P1 P2 P3 rel) (z1 : ∀ y, n ≤ y → γ.1 y = false) (z2 : ∀ g, ¬ G g → γ.2 g = false) (z3 : vl9 rel γ) : ∃ T, mo9 rel γ.1 T = [(1, γ)] := by
  have hE := hC.1.1 γ.1
  have hT : ∃ T : List Nat, fe9 rel γ.1 T ∧ ∀ g, (∃ h, h ∈ T ∧ rel γ.1 g h) ↔ γ.2 g = true := by
    have key : ∀ k, ∃ T : List Nat, fe9 rel γ.1 T ∧ (∀ h, h ∈ T → h < k ∧ ld9 (rel γ.1) G h ∧ γ.2 h = true) ∧ ∀ h, h < k → ld9 (rel γ.1) G h → γ.2 h = true → h ∈ T := fun k => by
      induction k with
      | zero => exact ⟨[], List.Pairwise.nil, fun h h9 => absurd h9 List.not_mem_nil, fun h h9 => absurd h9 (Nat.not_lt_zero _)⟩
      | succ k ih =>
        obtain ⟨T, t1, t2, t3⟩ := ih
        by_cases c : ld9 (rel γ.1) G k ∧ γ.2 k = true
        · refine ⟨k :: T, List.pairwise_cons.mpr ⟨fun h hh h9 => ?_, t1⟩, fun h hh => ?_, fun h h1 h2 h3 => ?_⟩
          · have := t2 h hh
            have e := ld_un hE c.1 this.2.1 h9
            omega
          · rcases List.mem_cons.mp hh with e | e
            · rw [e]
              exact ⟨by omega, c⟩
            · have := t2 h e
              exact ⟨by omega, this.2⟩
          · by_cases e : h = k
            · rw [e]
              exact List.mem_cons_self
            · exact List.mem_cons_of_mem _ (t3 h (by omega) h2 h3)
        · refine ⟨T, t1, fun h hh => ?_, fun h h1 h2 h3 => ?_⟩
          · have := t2 h hh
            exact ⟨by omega, this.2⟩
          · by_cases e : h = k
            · rw [e] at h2 h3
              exact absurd ⟨h2, h3⟩ c
            · exact t3 h (by omega) h2 h3
    obtain ⟨T, t1, t2, t3⟩ := key V
    refine ⟨T, t1, fun g => ⟨fun ⟨h, h1, h2⟩ => ?_, fun hg => ?_⟩⟩
    · rw [z3 g h h2]
      exact (t2 h h1).2.2
    · have Gg : G g := by
        by_cases c : G g
        · exact c
        · rw [z2 g c] at hg
          cases hg
      obtain ⟨l, l1, l2, l3⟩ := ld_ex hE g Gg
      exact ⟨l, t3 l (hC.2.2.1 l l1.1) l1 (by rw [z3 l g l2]; exact hg), hE.2.1 _ _ l2⟩
  obtain ⟨T, t1, t2⟩ := hT
  refine ⟨T, ?_⟩
  rw [mo_y t1]
  have e : inm9 rel γ.1 T = γ.2 := funext (fun g => bx (in_t.trans (t2 g)))
  rw [e]
/-- the groups of a cube are a row -/
theorem cu_cg (hC : cu9 n V G P1 P2 P3 rel) : cg9 (Sg9 n V G rel k d) (D9 P1 P2 P3 rel n) := by
  refine ⟨fun r γ hγ δ hδ => ?_, fun r γ hγ δ => ?_⟩
  · obtain ⟨q, q1, q2⟩ := cf_mem hδ
    obtain ⟨y, y1, y2, -, c, y3⟩ := D_st q1
    rw [← q2]
    exact Dx_ok hC y1 hγ y2 y3
  · obtain ⟨T, hT⟩ := gn_mo hC hγ.1 hγ.2.1 hγ.2.2.1
    have e := D_mo hC.1 γ.1 T n (Nat.le_refl n)
    rw [hT] at e
    have e2 : eq9 (D9 P1 P2 P3 rel n γ) (mD9 P1 P2 P3 rel n γ.1 T) := eq_t (eq_s (bd_1 γ)) e
    rw [bd_q e2 δ]
    exact DD_0 hC.1 γ.1 T δ
end XCHH
end
section
/-! 99zzzzzzzzzzzzzzzzyn.xchc -/
-- CHAIN: lists of generators; other gaps
section XCHI
theorem en_li (P : gn9 → Prop) : ∀ L : List gn9, ∃ E N, en9 (fun γ => γ ∈ L ∧ P γ) E N
  | [] => ⟨fun _ => (fun _ => false, fun _ => false), 0, fun i j h => absurd h (Nat.not_lt_zero _), fun γ => ⟨fun h => absurd h.1 List.not_mem_nil, fun ⟨i, h, _⟩ => absurd h (Nat.not_lt_zero _)⟩⟩
  | a :: L => by
    obtain ⟨E, N, h1, h2⟩ := en_li P L
    by_cases c : P a ∧ ¬ a ∈ L
    · have lo : ∀ i, i < N → (fun i => if i < N then E i else a) i = E i := fun i hi => if_pos hi
      have hi : (fun i => if i < N then E i else a) N = a := if_neg (Nat.lt_irrefl N)
      refine ⟨fun i => if i < N then E i else a, N + 1, fun i j h3 h4 h5 => ?_, fun γ => ⟨fun h => ?_, fun ⟨i, h3, h4⟩ => ?_⟩⟩
      · by_cases ei : i < N
        · by_cases ej : j < N
          · rw [lo i ei, lo j ej] at h5
            exact h1 i j ei ej h5
          · rw [lo i ei, show j = N by omega, hi] at h5
            exact absurd ((h2 a).mpr ⟨i, ei, h5.symm⟩).1 c.2
        · by_cases ej : j < N
          · rw [lo j ej, show i = N by omega, hi] at h5
            exact absurd ((h2 a).mpr ⟨j, ej, h5⟩).1 c.2
          · omega
      · rcases List.mem_cons.mp h.1 with e | e
        · exact ⟨N, by omega, by rw [hi, e]⟩
        · obtain ⟨i, i1, i2⟩ := (h2 γ).mp ⟨e, h.2⟩
          exact ⟨i, by omega, by rw [lo i i1, i2]⟩
      · by_cases ei : i < N
        · rw [lo i ei] at h4
          have := (h2 γ).mpr ⟨i, ei, h4⟩
          exact ⟨List.mem_cons_of_mem _ this.1, this.2⟩
        · rw [show i = N by omega, hi] at h4
          rw [h4]
          exact ⟨List.mem_cons_self, c.1⟩
    · refine ⟨E, N, h1, fun γ => ⟨fun h => ?_, fun h => ?_⟩⟩
      · rcases List.mem_cons.mp h.1 with e | e
        · by_cases c2 : a ∈ L
          · exact (h2 γ).mp ⟨e ▸ c2, h.2⟩
          · exact absurd ⟨e ▸ h.2, c2⟩ c
        · exact (h2 γ).mp ⟨e, h.2⟩
      · have := (h2 γ).mpr h
        exact ⟨List.mem_cons_of_mem _ this.1, this.2⟩
def alF9 : Nat → List (Nat → Bool)
  | 0 => [fun _ => false]
  | n + 1 => alF9 n ++ (alF9 n).map (fun s => on9 s n)
theorem alF_in : ∀ {n : Nat} {s : Nat → Bool}, (∀ y, n ≤ y → s y = false) → s ∈ alF9 n
  | 0, s, h => by
    rw [show s = fun _ => false from funext (fun y => h y (Nat.zero_le y))]
    exact List.mem_singleton.mpr rfl
  | n + 1, s, h => by
    by_cases c : s n = true
    · refine List.mem_append.mpr (Or.inr (List.mem_map.mpr ⟨off9 s n, alF_in (fun y hy => ?_), on_off c⟩))
      by_cases e : y = n
      · rw [e, off_x]
      · rw [off_o e]
        exact h y (by omega)
    · refine List.mem_append.mpr (Or.inl (alF_in (fun y hy => ?_)))
      by_cases e : y = n
      · rw [e]
        cases h9 : s n
        · rfl
        · exact absurd h9 c
      · exact h y (by omega)
theorem en_ex {P : gn9 → Prop} {n V : Nat} (h : ∀ γ, P γ → (∀ y, n ≤ y → γ.1 y = false) ∧ ∀ g, V ≤ g → γ.2 g = false) : ∃ E N, en9 P E N := by
  obtain ⟨E, N, h1, h2⟩ := en_li P ((alF9 n).flatMap (fun s => (alF9 V).map (fun m => (s, m))))
  refine ⟨E, N, h1, fun γ => ⟨fun h9 => (h2 γ).mp ⟨?_, h9⟩, fun h9 => ((h2 γ).mpr h9).2⟩⟩
  obtain ⟨a, b⟩ := h γ h9
  exact List.mem_flatMap.mpr ⟨γ.1, alF_in a, List.mem_map.mpr ⟨γ.2, alF_in b, rfl⟩⟩
theorem cn_le : ∀ {V V' : Nat} {P P' : Nat → Prop} (f : Nat → Nat), (∀ i, i < V → P i → f i < V' ∧ P' (f i)) → (∀ i j, i < V → j < V → P i → P j → f i = f j → i = j) → cn9 P V ≤ cn9 P' V'
  | 0, V', P, P', f, _, _ => Nat.zero_le _
  | V + 1, V', P, P', f, h1, h2 => by
    by_cases c : P V
    · rw [cn_y c]
      obtain ⟨q1, q2⟩ := h1 V (by omega) c
      have e := cn_one (P := fun i => P' i ∧ i ≠ f V) (Q := P') (a := f V) q1 (fun h9 => h9.2 rfl) (fun i _ => by
        constructor
        · intro h9
          by_cases e : i = f V
          · exact Or.inr e
          · exact Or.inl ⟨h9, e⟩
        · rintro (h9 | h9)
          · exact h9.1
          · rw [h9]
            exact q2)
      have := cn_le (V := V) (V' := V') (P := P) (P' := fun i => P' i ∧ i ≠ f V) f (fun i hi hp => ⟨(h1 i (by omega) hp).1, (h1 i (by omega) hp).2, fun h9 => by
        have := h2 i V (by omega) (by omega) hp c h9
        omega⟩) (fun i j hi hj => h2 i j (by omega) (by omega))
      omega
    · rw [cn_n c]
      exact cn_le f (fun i hi => h1 i (by omega)) (fun i j hi hj => h2 i j (by omega) (by omega))
end XCHI
section XCHJ
variable {n V V' k : Nat} {G G' : Nat → Prop} {P1 P2 P3 P1' P2' P3' : Nat → Nat} {rel rel' : (Nat → Bool) → Nat → Nat → Prop} {d : Int} {p b : Int}
theorem Sg_en (hC : cu9 n V G P1 P2 P3 rel) : fi9 (Sg9 n V G rel k d) := fun r => en_ex (n := n) (V := V) (fun γ hγ => ⟨hγ.1, fun g hg => hγ.2.1 g (fun h9 => by
  have := hC.2.2.1 g h9
  omega)⟩)
/-- as many loops -/
theorem cls_ph {R R' : Nat → Nat → Prop} {Q Q' : Nat → Prop} {φ : Nat → Nat} (hR : eqv9 R) (hR' : eqv9 R') (hV : ∀ g, G g → g < V) (hV' : ∀ g, G' g → g < V') (h1 : ∀ g, G' g → G (φ g)) (h2 : ∀ g h, G' g → G' h → (R' g h ↔ R (φ g) (φ h))) (h3 : ∀ g, G g → ∃ g', G' g' ∧ R g (φ g')) (hQ : ∀ g h, R g h → (Q g ↔ Q h)) (hq : ∀ g, G' g → (Q' g ↔ Q (φ g))) : cls9 R G V Q = cls9 R' G' V' Q' := by
  refine Nat.le_antisymm ?_ ?_
  · -- to the least of the loop there
    have ch : ∀ g, ∃ l, G g → ld9 R' G' l ∧ R g (φ l) := fun g => by
      by_cases c : G g
      · obtain ⟨g', a1, a2⟩ := h3 g c
        obtain ⟨l, l1, l2, -⟩ := ld_ex hR' g' a1
        exact ⟨l, fun _ => ⟨l1, hR.2.2 _ _ _ a2 (hR.2.1 _ _ ((h2 l g' l1.1 a1).mp l2))⟩⟩
      · exact ⟨0, fun h9 => absurd h9 c⟩
    refine cn_le (fun g => (ch g).choose) (fun g _ hg => ?_) (fun g h _ _ hg hh e => ?_)
    · obtain ⟨l1, l2⟩ := (ch g).choose_spec hg.1.1
      exact ⟨hV' _ l1.1, l1, (hq _ l1.1).mpr ((hQ _ _ l2).mp hg.2)⟩
    · obtain ⟨l1, l2⟩ := (ch g).choose_spec hg.1.1
      obtain ⟨m1, m2⟩ := (ch h).choose_spec hh.1.1
      have e : (ch g).choose = (ch h).choose := e
      rw [e] at l2
      exact ld_un hR hg.1 hh.1 (hR.2.2 _ _ _ l2 (hR.2.1 _ _ m2))
  · have ch : ∀ g, ∃ l, G' g → ld9 R G l ∧ R l (φ g) := fun g => by
      by_cases c : G' g
      · obtain ⟨l, l1, l2, -⟩ := ld_ex hR (φ g) (h1 g c)
        exact ⟨l, fun _ => ⟨l1, l2⟩⟩
      · exact ⟨0, fun h9 => absurd h9 c⟩
    refine cn_le (fun g => (ch g).choose) (fun g _ hg => ?_) (fun g h _ _ hg hh e => ?_)
    · obtain ⟨l1, l2⟩ := (ch g).choose_spec hg.1.1
      exact ⟨hV _ l1.1, l1, (hQ _ _ l2).mpr ((hq _ hg.1.1).mp hg.2)⟩
    · obtain ⟨l1, l2⟩ := (ch g).choose_spec hg.1.1
      obtain ⟨m1, m2⟩ := (ch h).choose_spec hh.1.1
      have e : (ch g).choose = (ch h).choose := e
      rw [e] at l2
      exact ld_un hR' hg.1 hh.1 ((h2 g h hg.1.1 hh.1.1).mpr (hR.2.2 _ _ _ (hR.2.1 _ _ l2) m2))
/-- the gaps G' for the gaps G -/
def phi9 (n : Nat) (G G' : Nat → Prop) (P1 P2 P3 P1' P2' P3' : Nat → Nat) (rel rel' : (Nat → Bool) → Nat → Nat → Prop) (φ : Nat → Nat) : Prop := (∀ g, G' g → G (φ g)) ∧ ∀ s, (∀ y, n ≤ y → s y = false) → (∀ g h, G' g → G' h → (rel' s g h ↔ rel s (φ g) (φ h))) ∧ (∀ g, G g → ∃ g', G' g' ∧ rel s g (φ g')) ∧ ∀ x, x < n → rel s (P1 x) (φ (P1' x)) ∧ rel s (P2 x) (φ (P2' x)) ∧ rel s (P3 x) (φ (P3' x))
noncomputable def kph9 (G' : Nat → Prop) (φ : Nat → Nat) (γ : gn9) : gn9 := (γ.1, fun g => dcb (G' g) && γ.2 (φ g))
theorem ph_deg {φ : Nat → Nat} (hC : cu9 n V G P1 P2 P3 rel) (hC' : cu9 n V' G' P1' P2' P3' rel') (hφ : phi9 n G G' P1 P2 P3 P1' P2' P3' rel rel' φ) {γ γ' : gn9} (z1 : ∀ y, n ≤ y → γ.1 y = false) (z3 : vl9 rel γ) (e1 : γ'.1 = γ.1) (e2 : ∀ g, G' g → γ'.2 g = γ.2 (φ g)) : dg9 rel' G' V' n γ' = dg9 rel G V n γ := by
  obtain ⟨f1, f2⟩ := hφ
  obtain ⟨a1, a2, -⟩ := f2 γ.1 z1
  unfold dg9
  rw [e1, ← cls_ph (Q := fun _ => True) (Q' := fun _ => True) (hC.1.1 γ.1) (hC'.1.1 γ.1) hC.2.2.1 hC'.2.2.1 f1 a1 a2 (fun _ _ _ => Iff.rfl) (fun _ _ => Iff.rfl), ← cls_ph (Q := fun g => γ.2 g = true) (Q' := fun g => γ'.2 g = true) (hC.1.1 γ.1) (hC'.1.1 γ.1) hC.2.2.1 hC'.2.2.1 f1 a1 a2 (fun g h h9 => by rw [z3 g h h9]) (fun g hg => by rw [e2 g hg])]
theorem Dx_ph {φ : Nat → Nat} {x : Nat} (hC : cu9 n V G P1 P2 P3 rel) (hC' : cu9 n V' G' P1' P2' P3' rel') (hφ : phi9 n G G' P1 P2 P3 P1' P2' P3' rel rel' φ) {γ : gn9} (z1 : ∀ y, n ≤ y → γ.1 y = false) (z3 : vl9 rel γ) (hx : x < n) (hs : γ.1 x = false) : Dx9 P1' P2' P3' rel' x (kph9 G' φ γ) = (Dx9 P1 P2 P3 rel x γ).map (fun q => (q.1, kph9 G' φ q.2)) := by
  obtain ⟨f1, f2⟩ := hφ
  obtain ⟨a1, a2, a3⟩ := f2 γ.1 z1
  obtain ⟨b1, b2, b3⟩ := f2 (on9 γ.1 x) (on_z hx z1)
  obtain ⟨g1, g2, g3⟩ := hC'.2.2.2 x hx
  have hE := hC.1.1 γ.1
  have hF := hC.1.1 (on9 γ.1 x)
  obtain ⟨u1, u2, u3⟩ := a3 x hx
  obtain ⟨v1, v2, v3⟩ := b3 x hx
  have m1 : ∀ a, G' a → (kph9 G' φ γ).2 a = γ.2 (φ a) := fun a ha => by
    show (dcb (G' a) && γ.2 (φ a)) = _
    rw [dcb_t.mpr ha, Bool.true_and]
  have e1 : (kph9 G' φ γ).2 (P1' x) = γ.2 (P1 x) := by rw [m1 _ g1, z3 _ _ u1]
  have e3 : (kph9 G' φ γ).2 (P3' x) = γ.2 (P3 x) := by rw [m1 _ g3, z3 _ _ u3]
  have c0 : dcb (rel' (kph9 G' φ γ).1 (P1' x) (P3' x)) = dcb (rel γ.1 (P1 x) (P3 x)) := dcb_c ((a1 _ _ g1 g3).trans ⟨fun h => hE.2.2 _ _ _ u1 (hE.2.2 _ _ _ h (hE.2.1 _ _ u3)), fun h => hE.2.2 _ _ _ (hE.2.1 _ _ u1) (hE.2.2 _ _ _ h u3)⟩)
  -- one term
  have tm : ∀ (B : Bool) (a a' : Nat), G' a' → rel (on9 γ.1 x) a (φ a') → ((on9 γ.1 x, fun g => (kph9 G' φ γ).2 g || (B && dcb (rel' (on9 γ.1 x) g a'))) : gn9) = kph9 G' φ (on9 γ.1 x, fun g => γ.2 g || (B && dcb (rel (on9 γ.1 x) g a))) := fun B a a' ga r => by
    refine Prod.ext rfl (funext (fun g => ?_))
    show ((dcb (G' g) && γ.2 (φ g)) || (B && dcb (rel' (on9 γ.1 x) g a'))) = (dcb (G' g) && (γ.2 (φ g) || (B && dcb (rel (on9 γ.1 x) (φ g) a))))
    by_cases c : G' g
    · have q : dcb (rel' (on9 γ.1 x) g a') = dcb (rel (on9 γ.1 x) (φ g) a) := dcb_c ((b1 g a' c ga).trans ⟨fun h => hF.2.2 _ _ _ h (hF.2.1 _ _ r), fun h => hF.2.2 _ _ _ h r⟩)
      rw [q, dcb_t.mpr c, Bool.true_and, Bool.true_and]
    · have q : dcb (rel' (on9 γ.1 x) g a') = false := dcb_f.mpr (fun h => c (hC'.2.1 _ (on_z hx z1) g a' h (fun h8 => c (h8 ▸ ga))).1)
      rw [q, dcb_f.mpr c, Bool.and_false]
      rfl
  unfold Dx9
  rw [c0]
  by_cases cc : dcb (rel γ.1 (P1 x) (P3 x)) = true
  · rw [if_pos cc, if_pos cc, e1]
    by_cases c1 : γ.2 (P1 x) = true
    · rw [if_pos c1, if_pos c1]
      rfl
    · rw [if_neg c1, if_neg c1]
      have t1 := tm true (P1 x) (P1' x) g1 v1
      have t2 := tm true (P2 x) (P2' x) g2 v2
      show [((1 : Int), ((on9 γ.1 x, fun g => (kph9 G' φ γ).2 g || (true && dcb (rel' (on9 γ.1 x) g (P1' x)))) : gn9)), (1, (on9 γ.1 x, fun g => (kph9 G' φ γ).2 g || (true && dcb (rel' (on9 γ.1 x) g (P2' x)))))] = _
      rw [t1, t2]
      rfl
  · rw [if_neg cc, if_neg cc, e1, e3]
    by_cases c1 : γ.2 (P1 x) = true ∧ γ.2 (P3 x) = true
    · rw [if_pos c1, if_pos c1]
      rfl
    · rw [if_neg c1, if_neg c1]
      have t1 := tm (γ.2 (P1 x) || γ.2 (P3 x)) (P1 x) (P1' x) g1 v1
      show [((1 : Int), ((on9 γ.1 x, fun g => (kph9 G' φ γ).2 g || ((γ.2 (P1 x) || γ.2 (P3 x)) && dcb (rel' (on9 γ.1 x) g (P1' x)))) : gn9))] = _
      rw [t1]
      rfl
theorem D_ph {φ : Nat → Nat} (hC : cu9 n V G P1 P2 P3 rel) (hC' : cu9 n V' G' P1' P2' P3' rel') (hφ : phi9 n G G' P1 P2 P3 P1' P2' P3' rel rel' φ) {γ : gn9} (z1 : ∀ y, n ≤ y → γ.1 y = false) (z3 : vl9 rel γ) : ∀ {k : Nat}, k ≤ n → D9 P1' P2' P3' rel' k (kph9 G' φ γ) = (D9 P1 P2 P3 rel k γ).map (fun q => (q.1, kph9 G' φ q.2))
  | 0, _ => rfl
  | k + 1, h => by
    show D9 P1' P2' P3' rel' k (kph9 G' φ γ) ++ (if γ.1 k = true then [] else scf9 (par9 γ.1 k) (Dx9 P1' P2' P3' rel' k (kph9 G' φ γ))) = (D9 P1 P2 P3 rel k γ ++ (if γ.1 k = true then [] else scf9 (par9 γ.1 k) (Dx9 P1 P2 P3 rel k γ))).map _
    rw [D_ph hC hC' hφ z1 z3 (k := k) (by omega), List.map_append]
    congr 1
    by_cases c : γ.1 k = true
    · rw [if_pos c, if_pos c]
      rfl
    · have c0 : γ.1 k = false := by
        cases h9 : γ.1 k
        · rfl
        · exact absurd h9 c
      rw [if_neg c, if_neg c, Dx_ph hC hC' hφ z1 z3 (by omega) c0]
      unfold scf9
      rw [List.map_map, List.map_map]
      rfl
/-- other gaps, the same number -/
theorem be_ph {φ : Nat → Nat} {r : Nat} (hp : pr9 p) (hi : iv9 p) (hC : cu9 n V G P1 P2 P3 rel) (hC' : cu9 n V' G' P1' P2' P3' rel') (hφ : phi9 n G G' P1 P2 P3 P1' P2' P3' rel rel' φ) (hb : be9 p (Sg9 n V G rel k d) (D9 P1 P2 P3 rel n) r b) : be9 p (Sg9 n V' G' rel' k d) (D9 P1' P2' P3' rel' n) r b := by
  obtain ⟨E', N', he'⟩ := fi_en (Sg_en (k := k) (d := d) hC')
  refine ⟨E', N', he', ?_⟩
  have ch : ∀ (s : Nat → Bool) g, ∃ g', (∀ y, n ≤ y → s y = false) → G g → G' g' ∧ rel s g (φ g') := fun s g => by
    by_cases c : (∀ y, n ≤ y → s y = false) ∧ G g
    · obtain ⟨g', h⟩ := (hφ.2 s c.1).2.1 g c.2
      exact ⟨g', fun _ _ => h⟩
    · exact ⟨0, fun h1 h2 => absurd ⟨h1, h2⟩ c⟩
  have pr : ∀ γ : gn9, (∀ y, n ≤ y → γ.1 y = false) → (∀ g, ¬ G' g → γ.2 g = false) → vl9 rel' γ → vl9 rel (γ.1, fun g => dcb (G g) && γ.2 (ch γ.1 g).choose) ∧ ∀ g, G' g → (dcb (G (φ g)) && γ.2 (ch γ.1 (φ g)).choose) = γ.2 g := fun γ z1 z2 z3 => by
    have hE := hC.1.1 γ.1
    obtain ⟨a1, -, -⟩ := hφ.2 γ.1 z1
    refine ⟨fun g h h1 => ?_, fun g hg => ?_⟩
    · show (dcb (G g) && γ.2 (ch γ.1 g).choose) = (dcb (G h) && γ.2 (ch γ.1 h).choose)
      have h1 : rel γ.1 g h := h1
      by_cases e : g = h
      · rw [e]
      · obtain ⟨q1, q2⟩ := hC.2.1 _ z1 g h h1 e
        rw [dcb_t.mpr q1, dcb_t.mpr q2]
        obtain ⟨w1, w2⟩ := (ch γ.1 g).choose_spec z1 q1
        obtain ⟨w3, w4⟩ := (ch γ.1 h).choose_spec z1 q2
        rw [z3 _ _ ((a1 _ _ w1 w3).mpr (hE.2.2 _ _ _ (hE.2.1 _ _ w2) (hE.2.2 _ _ _ h1 w4)))]
    · have q1 := hφ.1 g hg
      obtain ⟨w1, w2⟩ := (ch γ.1 (φ g)).choose_spec z1 q1
      rw [dcb_t.mpr q1, Bool.true_and]
      exact (z3 _ _ ((a1 _ _ hg w1).mpr w2)).symm
  refine isoT hp hi (cu_cg hC) (cu_cg hC') (kph9 G' φ) (fun γ => (γ.1, fun g => dcb (G g) && γ.2 (ch γ.1 g).choose)) (fun _ => 1) (fun _ => rfl) (fun r γ hγ => ?_) (fun r γ hγ => ?_) (fun r γ hγ => ?_) r hb he'
  · obtain ⟨z1, z2, z3, z4, z5⟩ := hγ
    obtain ⟨a1, -, -⟩ := hφ.2 γ.1 z1
    refine ⟨⟨z1, fun g hg => ?_, fun g h h1 => ?_, z4, ?_⟩, Prod.ext rfl (funext (fun g => ?_))⟩
    · show (dcb (G' g) && γ.2 (φ g)) = false
      rw [dcb_f.mpr hg]
      rfl
    · show (dcb (G' g) && γ.2 (φ g)) = (dcb (G' h) && γ.2 (φ h))
      have h1 : rel' γ.1 g h := h1
      by_cases e : g = h
      · rw [e]
      · obtain ⟨q1, q2⟩ := hC'.2.1 _ z1 g h h1 e
        rw [dcb_t.mpr q1, dcb_t.mpr q2, z3 _ _ ((a1 g h q1 q2).mp h1)]
    · rw [← z5]
      exact ph_deg hC hC' hφ z1 z3 rfl (fun g hg => by
        show (dcb (G' g) && γ.2 (φ g)) = _
        rw [dcb_t.mpr hg, Bool.true_and])
    · show (dcb (G g) && (dcb (G' (ch γ.1 g).choose) && γ.2 (φ (ch γ.1 g).choose))) = γ.2 g
      by_cases c : G g
      · obtain ⟨w1, w2⟩ := (ch γ.1 g).choose_spec z1 c
        rw [dcb_t.mpr c, dcb_t.mpr w1, Bool.true_and, Bool.true_and]
        exact (z3 _ _ w2).symm
      · rw [dcb_f.mpr c, z2 g c]
        rfl
  · obtain ⟨z1, z2, z3, z4, z5⟩ := hγ
    obtain ⟨t1, t2⟩ := pr γ z1 z2 z3
    refine ⟨⟨z1, fun g hg => ?_, t1, z4, ?_⟩, Prod.ext rfl (funext (fun g => ?_))⟩
    · show (dcb (G g) && γ.2 (ch γ.1 g).choose) = false
      rw [dcb_f.mpr hg]
      rfl
    · rw [← z5]
      exact (ph_deg hC hC' hφ (γ := (γ.1, fun g => dcb (G g) && γ.2 (ch γ.1 g).choose)) (γ' := γ) z1 t1 rfl (fun g hg => (t2 g hg).symm)).symm
    · show (dcb (G' g) && (dcb (G (φ g)) && γ.2 (ch γ.1 (φ g)).choose)) = γ.2 g
      by_cases c : G' g
      · rw [dcb_t.mpr c, Bool.true_and]
        exact t2 g c
      · rw [dcb_f.mpr c, z2 g c]
        rfl
  · obtain ⟨z1, z2, z3, z4, z5⟩ := hγ
    rw [D_ph hC hC' hφ z1 z3 (Nat.le_refl n)]
    exact eq_t (bd_map (c := 1) (κ := kph9 G' φ) (fun q _ => rfl)) eq_r
end XCHJ
end
section
/-! 99zzzzzzzzzzzzzzzzyo.xchd -/
-- CHAIN: other numbers of crossings
def tau9 (x y : Nat) : Nat := if y = x then x + 1 else if y = x + 1 then x else y
def swp9 (x m y : Nat) : Nat := if y = x then m else if y = m then x else y
def sgb9 (b : Bool) : Int := if b = true then -1 else 1
section XCHK
variable {n V k x : Nat} {G : Nat → Prop} {P1 P2 P3 : Nat → Nat} {rel : (Nat → Bool) → Nat → Nat → Prop} {d : Int} {p b : Int} {γ : gn9} {s : Nat → Bool}
theorem tau_1 : tau9 x x = x + 1 := if_pos rfl
theorem tau_2 : tau9 x (x + 1) = x := (if_neg (by omega)).trans (if_pos rfl)
theorem tau_3 {y : Nat} (h1 : y ≠ x) (h2 : y ≠ x + 1) : tau9 x y = y := (if_neg h1).trans (if_neg h2)
theorem tau_i (x y : Nat) : tau9 x (tau9 x y) = y := by
  by_cases c : y = x
  · rw [c, tau_1, tau_2]
  · by_cases c2 : y = x + 1
    · rw [c2, tau_2, tau_1]
    · rw [tau_3 c c2, tau_3 c c2]
theorem tau_lt {y : Nat} (hx : x + 1 < n) (hy : y < n) : tau9 x y < n := by
  by_cases c : y = x
  · rw [c, tau_1]
    exact hx
  · by_cases c2 : y = x + 1
    · rw [c2, tau_2]
      omega
    · rw [tau_3 c c2]
      exact hy
theorem tau_ge {y : Nat} (hx : x + 1 < n) (hy : n ≤ y) : tau9 x y = y := tau_3 (by omega) (by omega)
theorem on_tau (s : Nat → Bool) (x y : Nat) : (fun z => on9 s y (tau9 x z)) = on9 (fun z => s (tau9 x z)) (tau9 x y) := funext (fun z => by
  by_cases c : z = tau9 x y
  · rw [c, on_x, tau_i, on_x]
  · rw [on_o c, on_o (fun h9 => c (by rw [← h9, tau_i]))])
theorem tau_tau (s : Nat → Bool) : (fun z => (fun w => s (tau9 x w)) (tau9 x z)) = s := funext (fun z => congrArg s (tau_i x z))
theorem sN_tau {f : Nat → Int} : ∀ {n : Nat}, x + 1 < n → sN9 (fun y => f (tau9 x y)) n = sN9 f n
  | 0, h => absurd h (Nat.not_lt_zero _)
  | n + 1, h => by
    show sN9 (fun y => f (tau9 x y)) n + f (tau9 x n) = sN9 f n + f n
    by_cases c : x + 1 = n
    · rw [← c, tau_2]
      show sN9 (fun y => f (tau9 x y)) x + f (tau9 x x) + f x = sN9 f x + f x + f (x + 1)
      rw [tau_1, sN_cg (f := fun y => f (tau9 x y)) (g := f) (fun i hi => congrArg f (tau_3 (by omega) (by omega)))]
      omega
    · rw [sN_tau (n := n) (by omega), tau_3 (by omega) (by omega)]
theorem sN_mulc {f : Nat → Int} (c : Int) : ∀ {n : Nat}, sN9 (fun i => c * f i) n = c * sN9 f n
  | 0 => (Int.mul_zero c).symm
  | n + 1 => by
    show sN9 (fun i => c * f i) n + c * f n = c * (sN9 f n + f n)
    rw [sN_mulc, Int.mul_add]
theorem smf_D (φ : gn9 → Int) : ∀ n, smf9 φ (D9 P1 P2 P3 rel n γ) = sN9 (fun y => if γ.1 y = true then 0 else par9 γ.1 y * smf9 φ (Dx9 P1 P2 P3 rel y γ)) n
  | 0 => rfl
  | n + 1 => by
    show smf9 φ (D9 P1 P2 P3 rel n γ ++ (if γ.1 n = true then [] else scf9 (par9 γ.1 n) (Dx9 P1 P2 P3 rel n γ))) = sN9 _ n + (if γ.1 n = true then 0 else par9 γ.1 n * smf9 φ (Dx9 P1 P2 P3 rel n γ))
    rw [sm_a, smf_D φ n]
    by_cases c : γ.1 n = true
    · rw [if_pos c, if_pos c]
      rfl
    · rw [if_neg c, if_neg c, sm_sc]
theorem par_s (s : Nat → Bool) (y : Nat) : par9 s (y + 1) = par9 s y * sgb9 (s y) := by
  show (if s y = true then -par9 s y else par9 s y) = par9 s y * (if s y = true then -1 else 1)
  by_cases c : s y = true
  · rw [if_pos c, if_pos c]
    omega
  · rw [if_neg c, if_neg c]
    omega
theorem par_cg {t : Nat → Bool} : ∀ {y : Nat}, (∀ z, z < y → s z = t z) → par9 s y = par9 t y
  | 0, _ => rfl
  | y + 1, h => by rw [par_s, par_s, par_cg (fun z hz => h z (by omega)), h y (by omega)]
theorem par_t1 {y : Nat} (h : y ≤ x) : par9 (fun z => s (tau9 x z)) y = par9 s y := par_cg (fun z hz => congrArg s (tau_3 (by omega) (by omega)))
theorem par_t2 : par9 (fun z => s (tau9 x z)) (x + 1) = par9 s x * sgb9 (s (x + 1)) := by
  rw [par_s, par_t1 (Nat.le_refl x), tau_1]
theorem par_t3 : ∀ {y : Nat}, x + 2 ≤ y → par9 (fun z => s (tau9 x z)) y = par9 s y
  | 0, h => by omega
  | y + 1, h => by
    by_cases c : y = x + 1
    · rw [c, par_s, par_t2, tau_2, par_s, par_s, Int.mul_assoc, Int.mul_assoc, Int.mul_comm (sgb9 (s (x + 1)))]
    · rw [par_s, par_s, par_t3 (by omega), tau_3 (by omega) (by omega)]
theorem ons_s (s : Nat → Bool) (y : Nat) : ons9 s (y + 1) = ons9 s y + if s y = true then 1 else 0 := rfl
theorem ons_cg {t : Nat → Bool} : ∀ {y : Nat}, (∀ z, z < y → s z = t z) → ons9 s y = ons9 t y
  | 0, _ => rfl
  | y + 1, h => by rw [ons_s, ons_s, ons_cg (fun z hz => h z (by omega)), h y (by omega)]
theorem ons_t : ∀ {y : Nat}, x + 2 ≤ y → ons9 (fun z => s (tau9 x z)) y = ons9 s y
  | 0, h => by omega
  | y + 1, h => by
    by_cases c : y = x + 1
    · rw [c, ons_s, ons_s, ons_s, ons_s, tau_1, tau_2, ons_cg (t := s) (fun z hz => congrArg s (tau_3 (by omega) (by omega)))]
      omega
    · rw [ons_s, ons_s, ons_t (by omega), tau_3 (by omega) (by omega)]
/-- the sign of a state when x and x + 1 are exchanged -/
def eps9 (x : Nat) (γ : gn9) : Int := if γ.1 x = true ∧ γ.1 (x + 1) = true then -1 else 1
theorem eps_par {y : Nat} (hs : s y = false) (m m' : Nat → Bool) : par9 s y * eps9 x (on9 s y, m) = eps9 x (s, m') * par9 (fun z => s (tau9 x z)) (tau9 x y) := by
  have e0 : ∀ t m, eps9 x (t, m) = if t x = true ∧ t (x + 1) = true then -1 else 1 := fun _ _ => rfl
  rw [e0, e0]
  by_cases c : y = x
  · rw [c] at hs ⊢
    rw [tau_1, par_t2, on_x, on_o (by omega), hs, if_neg (show ¬ (false = true ∧ s (x + 1) = true) from fun h9 => by cases h9.1), Int.one_mul]
    unfold sgb9
    by_cases c2 : s (x + 1) = true
    · rw [if_pos ⟨rfl, c2⟩, if_pos c2]
    · rw [if_neg (fun h9 => c2 h9.2), if_neg c2]
  · by_cases c2 : y = x + 1
    · rw [c2] at hs ⊢
      rw [tau_2, par_t1 (Nat.le_refl x), on_x, on_o (by omega), hs, if_neg (show ¬ (s x = true ∧ false = true) from fun h9 => by cases h9.2), Int.one_mul, par_s]
      unfold sgb9
      by_cases c3 : s x = true
      · rw [if_pos c3, if_pos ⟨c3, rfl⟩]
        omega
      · rw [if_neg c3, if_neg (fun h9 => c3 h9.1)]
        omega
    · rw [tau_3 c c2, on_o (fun h9 => c h9.symm), on_o (fun h9 => c2 h9.symm), Int.mul_comm]
      congr 1
      rcases Nat.lt_or_ge y x with h | h
      · exact (par_t1 (by omega)).symm
      · exact (par_t3 (by omega)).symm
theorem tau_cu (hx : x + 1 < n) (hC : cu9 n V G P1 P2 P3 rel) : cu9 n V G (fun y => P1 (tau9 x y)) (fun y => P2 (tau9 x y)) (fun y => P3 (tau9 x y)) (fun s => rel (fun z => s (tau9 x z))) := by
  refine ⟨⟨fun s => hC.1.1 _, fun s y hy hs => ?_⟩, fun s hz => hC.2.1 _ (fun y hy => ?_), hC.2.2.1, fun y hy => hC.2.2.2 _ (tau_lt hx hy)⟩
  · have := hC.1.2 (fun z => s (tau9 x z)) (tau9 x y) (tau_lt hx hy) (by show s (tau9 x (tau9 x y)) = false; rw [tau_i]; exact hs)
    rw [← on_tau] at this
    exact this
  · show s (tau9 x y) = false
    rw [tau_ge hx hy]
    exact hz y hy
noncomputable def dxv9 (R R' : Nat → Nat → Prop) (a b c : Nat) (t m : Nat → Bool) : fc9 := if dcb (R a c) = true then (if m a = true then [(1, (t, m))] else [(1, (t, fun g => m g || dcb (R' g a))), (1, (t, fun g => m g || dcb (R' g b)))]) else (if m a = true ∧ m c = true then [] else [(1, (t, fun g => m g || ((m a || m c) && dcb (R' g a))))])
theorem Dx_tau (y : Nat) : Dx9 (fun y => P1 (tau9 x y)) (fun y => P2 (tau9 x y)) (fun y => P3 (tau9 x y)) (fun s => rel (fun z => s (tau9 x z))) (tau9 x y) ((fun z => γ.1 (tau9 x z)), γ.2) = (Dx9 P1 P2 P3 rel y γ).map (fun q => (q.1, ((fun z => q.2.1 (tau9 x z)), q.2.2))) := by
  have e1 : rel (fun z => (fun z => γ.1 (tau9 x z)) (tau9 x z)) = rel γ.1 := congrArg rel (tau_tau γ.1)
  have e2 : on9 (fun z => γ.1 (tau9 x z)) (tau9 x y) = fun z => on9 γ.1 y (tau9 x z) := (on_tau γ.1 x y).symm
  have e3 : rel (fun z => (fun z => on9 γ.1 y (tau9 x z)) (tau9 x z)) = rel (on9 γ.1 y) := congrArg rel (tau_tau (on9 γ.1 y))
  show dxv9 (rel (fun z => (fun z => γ.1 (tau9 x z)) (tau9 x z))) (rel (fun z => on9 (fun z => γ.1 (tau9 x z)) (tau9 x y) (tau9 x z))) (P1 (tau9 x (tau9 x y))) (P2 (tau9 x (tau9 x y))) (P3 (tau9 x (tau9 x y))) (on9 (fun z => γ.1 (tau9 x z)) (tau9 x y)) γ.2 = (dxv9 (rel γ.1) (rel (on9 γ.1 y)) (P1 y) (P2 y) (P3 y) (on9 γ.1 y) γ.2).map _
  rw [e1, e2, tau_i]
  show dxv9 (rel γ.1) (rel (fun z => (fun z => on9 γ.1 y (tau9 x z)) (tau9 x z))) (P1 y) (P2 y) (P3 y) (fun z => on9 γ.1 y (tau9 x z)) γ.2 = (dxv9 (rel γ.1) (rel (on9 γ.1 y)) (P1 y) (P2 y) (P3 y) (on9 γ.1 y) γ.2).map _
  rw [e3]
  unfold dxv9
  split
  · split <;> rfl
  · split <;> rfl
theorem be_tau {r : Nat} (hp : pr9 p) (hi : iv9 p) (hx : x + 1 < n) (hC : cu9 n V G P1 P2 P3 rel) (hb : be9 p (Sg9 n V G rel k d) (D9 P1 P2 P3 rel n) r b) : be9 p (Sg9 n V G (fun s => rel (fun z => s (tau9 x z))) k d) (D9 (fun y => P1 (tau9 x y)) (fun y => P2 (tau9 x y)) (fun y => P3 (tau9 x y)) (fun s => rel (fun z => s (tau9 x z))) n) r b := by
  have hC' := tau_cu hx hC
  obtain ⟨E', N', he'⟩ := fi_en (Sg_en (k := k) (d := d) hC')
  refine ⟨E', N', he', ?_⟩
  have inv : ∀ γ : gn9, (((fun z => (fun w => γ.1 (tau9 x w)) (tau9 x z)), γ.2) : gn9) = γ := fun γ => Prod.ext (tau_tau γ.1) rfl
  refine isoT hp hi (cu_cg hC) (cu_cg hC') (fun γ => ((fun z => γ.1 (tau9 x z)), γ.2)) (fun γ => ((fun z => γ.1 (tau9 x z)), γ.2)) (eps9 x) (fun γ => ?_) (fun r γ hγ => ⟨?_, inv γ⟩) (fun r γ hγ => ⟨?_, inv γ⟩) (fun r γ hγ δ => ?_) r hb he'
  · unfold eps9
    split <;> rfl
  · obtain ⟨z1, z2, z3, z4, z5⟩ := hγ
    have e1 : rel (fun z => (fun z => γ.1 (tau9 x z)) (tau9 x z)) = rel γ.1 := congrArg rel (tau_tau γ.1)
    refine ⟨fun y hy => ?_, z2, fun g h h1 => ?_, ?_, ?_⟩
    · show γ.1 (tau9 x y) = false
      rw [tau_ge hx hy]
      exact z1 y hy
    · have h1 : rel (fun z => (fun z => γ.1 (tau9 x z)) (tau9 x z)) g h := h1
      rw [e1] at h1
      exact z3 g h h1
    · show ons9 (fun z => γ.1 (tau9 x z)) n + k = r
      rw [ons_t (by omega)]
      exact z4
    · show (cls9 (rel (fun z => (fun z => γ.1 (tau9 x z)) (tau9 x z))) G V (fun _ => True) : Int) - 2 * cls9 (rel (fun z => (fun z => γ.1 (tau9 x z)) (tau9 x z))) G V (fun g => γ.2 g = true) + ons9 (fun z => γ.1 (tau9 x z)) n = d
      rw [e1, ons_t (by omega)]
      exact z5
  · obtain ⟨z1, z2, z3, z4, z5⟩ := hγ
    refine ⟨fun y hy => ?_, z2, fun g h h1 => z3 g h h1, ?_, ?_⟩
    · show γ.1 (tau9 x y) = false
      rw [tau_ge hx hy]
      exact z1 y hy
    · show ons9 (fun z => γ.1 (tau9 x z)) n + k = r
      rw [ons_t (by omega)]
      exact z4
    · show (cls9 (rel (fun z => γ.1 (tau9 x z))) G V (fun _ => True) : Int) - 2 * cls9 (rel (fun z => γ.1 (tau9 x z))) G V (fun g => γ.2 g = true) + ons9 (fun z => γ.1 (tau9 x z)) n = d
      rw [ons_t (by omega)]
      exact z5
  · rw [cf_bd, smf_D, cf_sc]
    have e2 : cf9 (D9 (fun y => P1 (tau9 x y)) (fun y => P2 (tau9 x y)) (fun y => P3 (tau9 x y)) (fun s => rel (fun z => s (tau9 x z))) n ((fun z => γ.1 (tau9 x z)), γ.2)) δ = sN9 (fun y => if γ.1 (tau9 x y) = true then 0 else par9 (fun z => γ.1 (tau9 x z)) y * cf9 (Dx9 (fun y => P1 (tau9 x y)) (fun y => P2 (tau9 x y)) (fun y => P3 (tau9 x y)) (fun s => rel (fun z => s (tau9 x z))) y ((fun z => γ.1 (tau9 x z)), γ.2)) δ) n := smf_D (id9 δ) n
    rw [e2]
    refine Eq.trans ?_ (congrArg (fun t => eps9 x γ * t) (sN_tau hx))
    rw [← sN_mulc]
    refine sN_cg (fun y hy => ?_)
    show (if γ.1 y = true then 0 else _) = eps9 x γ * (if γ.1 (tau9 x (tau9 x y)) = true then 0 else _)
    rw [tau_i]
    by_cases c : γ.1 y = true
    · rw [if_pos c, if_pos c, Int.mul_zero]
    · have c0 : γ.1 y = false := by
        cases h9 : γ.1 y
        · rfl
        · exact absurd h9 c
      rw [if_neg c, if_neg c, Dx_tau]
      have e3 : ∀ l : fc9, (∀ q, q ∈ l → q.2.1 = on9 γ.1 y) → smf9 (fun ε => cf9 [(eps9 x ε, ((fun z => ε.1 (tau9 x z)), ε.2))] δ) l = eps9 x (on9 γ.1 y, γ.2) * cf9 (l.map (fun q => (q.1, ((fun z => q.2.1 (tau9 x z)), q.2.2)))) δ := fun l hl => by
        induction l with
        | nil => exact (Int.mul_zero _).symm
        | cons q l ih =>
          show q.1 * cf9 [(eps9 x q.2, ((fun z => q.2.1 (tau9 x z)), q.2.2))] δ + smf9 _ l = eps9 x (on9 γ.1 y, γ.2) * (q.1 * id9 δ ((fun z => q.2.1 (tau9 x z)), q.2.2) + cf9 (l.map (fun q => (q.1, ((fun z => q.2.1 (tau9 x z)), q.2.2)))) δ)
          rw [ih (fun t ht => hl t (List.mem_cons_of_mem _ ht)), cf_1, Int.mul_add]
          have e4 : eps9 x q.2 = eps9 x (on9 γ.1 y, γ.2) := by
            unfold eps9
            rw [hl q List.mem_cons_self]
          rw [e4, ← Int.mul_assoc, ← Int.mul_assoc, Int.mul_comm q.1]
      rw [e3 _ (fun q hq => Dx_st hq), ← Int.mul_assoc, ← Int.mul_assoc, eps_par c0 γ.2 γ.2]
end XCHK
end
section
/-! 99zzzzzzzzzzzzzzzzyp.xche -/
-- CHAIN: crossings exchanged; the other end first; a loop that goes (type A), in some states only
def rlk9 (n : Nat) (α β : Nat → Nat) : Prop := ∀ (V k r : Nat) (G : Nat → Prop) (P1 P2 P3 : Nat → Nat) (rel : (Nat → Bool) → Nat → Nat → Prop) (d p b : Int), pr9 p → iv9 p → cu9 n V G P1 P2 P3 rel → be9 p (Sg9 n V G rel k d) (D9 P1 P2 P3 rel n) r b → cu9 n V G (fun y => P1 (β y)) (fun y => P2 (β y)) (fun y => P3 (β y)) (fun s => rel (fun z => s (α z))) ∧ be9 p (Sg9 n V G (fun s => rel (fun z => s (α z))) k d) (D9 (fun y => P1 (β y)) (fun y => P2 (β y)) (fun y => P3 (β y)) (fun s => rel (fun z => s (α z))) n) r b
theorem rl_tau {n x : Nat} (hx : x + 1 < n) : rlk9 n (tau9 x) (tau9 x) := fun V k r G P1 P2 P3 rel d p b hp hi hC hb => ⟨tau_cu hx hC, be_tau hp hi hx hC hb⟩
theorem rl_cmp {n : Nat} {α β α' β' : Nat → Nat} (h1 : rlk9 n α β) (h2 : rlk9 n α' β') : rlk9 n (fun z => α' (α z)) (fun y => β (β' y)) := fun V k r G P1 P2 P3 rel d p b hp hi hC hb => by
  obtain ⟨a1, a2⟩ := h1 V k r G P1 P2 P3 rel d p b hp hi hC hb
  exact h2 V k r G _ _ _ _ d p b hp hi a1 a2
theorem rl_swp {n x : Nat} : ∀ j, x + j + 1 < n → rlk9 n (swp9 x (x + j + 1)) (swp9 x (x + j + 1))
  | 0, h => by
    have e : swp9 x (x + 0 + 1) = tau9 x := rfl
    rw [e]
    exact rl_tau h
  | j + 1, h => by
    have e : swp9 x (x + (j + 1) + 1) = fun z => tau9 (x + j + 1) (swp9 x (x + j + 1) (tau9 (x + j + 1) z)) := funext (fun z => by
      unfold swp9 tau9
      repeat' split
      all_goals omega)
    rw [e]
    have t := rl_tau (n := n) (x := x + j + 1) h
    have u := rl_swp (n := n) (x := x) j (by omega)
    have v := rl_cmp t u
    exact rl_cmp (α := fun z => swp9 x (x + j + 1) (tau9 (x + j + 1) z)) (β := fun y => tau9 (x + j + 1) (swp9 x (x + j + 1) y)) (α' := tau9 (x + j + 1)) (β' := tau9 (x + j + 1)) v t
theorem rl_sw {n x m : Nat} (h1 : x < m) (h2 : m < n) : rlk9 n (swp9 x m) (swp9 x m) := by
  have := rl_swp (n := n) (x := x) (m - x - 1) (by omega)
  rw [show x + (m - x - 1) + 1 = m by omega] at this
  exact this
section XCHL
variable {p b : Int} {S : Nat → gn9 → Prop} {D D' : gn9 → fc9}
theorem rwl_cg {d d' : Nat → vc9} : ∀ {n : Nat}, (∀ i, i < n → d i = d' i) → rwl9 d n = rwl9 d' n
  | 0, _ => rfl
  | n + 1, h => by
    show d n :: rwl9 d n = d' n :: rwl9 d' n
    rw [h n (by omega), rwl_cg (fun i hi => h i (by omega))]
theorem be_cg {r : Nat} (h : ∀ r γ, S r γ → eq9 (D γ) (D' γ)) (hb : be9 p S D r b) : be9 p S D' r b := by
  obtain ⟨E, N, he, hN⟩ := hb
  refine ⟨E, N, he, ?_⟩
  have e : ∀ r, rn9 p E N D' r = rn9 p E N D r := fun r => by
    unfold rn9
    rw [rwl_cg (d := mtx9 D' (E r) (E (r + 1))) (d' := mtx9 D (E r) (E (r + 1))) (fun i hi => funext (fun j => (h r _ (en_at (he r) hi) _).symm))]
  rw [e, e]
  exact hN
end XCHL
/-- the same ends, or the other end first -/
def flp9 (P1 P2 P3 P1' P2' P3' : Nat → Nat) (x : Nat) : Prop := (P1' x = P1 x ∧ P2' x = P2 x ∧ P3' x = P3 x) ∨ (P2 x = P3 x ∧ P1' x = P3 x ∧ P2' x = P1 x ∧ P3' x = P1 x)
section XCHM
variable {n V k : Nat} {G : Nat → Prop} {P1 P2 P3 P1' P2' P3' : Nat → Nat} {rel : (Nat → Bool) → Nat → Nat → Prop} {d p b : Int} {γ : gn9}
theorem flp_cu (h : ∀ x, x < n → flp9 P1 P2 P3 P1' P2' P3' x) (hC : cu9 n V G P1 P2 P3 rel) : cu9 n V G P1' P2' P3' rel := by
  have sw : ∀ (R : Nat → Nat → Prop) a b g h, adr R a b g h ↔ adr R b a g h := fun R a b g h => by
    unfold adr
    constructor <;> rintro (h9 | h9 | h9) <;> first | exact Or.inl h9 | exact Or.inr (Or.inl h9) | exact Or.inr (Or.inr h9)
  refine ⟨⟨hC.1.1, fun s x hx hs => ?_⟩, hC.2.1, hC.2.2.1, fun x hx => ?_⟩
  · rcases h x hx with ⟨e1, e2, e3⟩ | ⟨e0, e1, e2, e3⟩
    · rw [e1, e2, e3]
      exact hC.1.2 s x hx hs
    · rw [e1, e2, e3]
      have hE := hC.1.1 s
      have hF := hC.1.1 (on9 s x)
      rcases hC.1.2 s x hx hs with ⟨h1, h2⟩ | ⟨h1, h2, h3⟩
      · exact Or.inl ⟨fun h9 => h1 (hE.2.1 _ _ h9), fun g k => (h2 g k).trans (sw _ _ _ _ _)⟩
      · rw [e0] at h2 h3
        exact Or.inr ⟨hE.2.1 _ _ h1, fun h9 => h2 (hF.2.1 _ _ h9), fun g k => (h3 g k).trans (sw _ _ _ _ _)⟩
  · obtain ⟨a, b, c⟩ := hC.2.2.2 x hx
    rcases h x hx with ⟨e1, e2, e3⟩ | ⟨e0, e1, e2, e3⟩
    · rw [e1, e2, e3]
      exact ⟨a, b, c⟩
    · rw [e1, e2, e3]
      exact ⟨c, a, a⟩
theorem flp_D (h : ∀ x, x < n → flp9 P1 P2 P3 P1' P2' P3' x) (hC : cu9 n V G P1 P2 P3 rel) (hv : vl9 rel γ) : eq9 (D9 P1 P2 P3 rel n γ) (D9 P1' P2' P3' rel n γ) := fun δ => by
  refine (smf_D (id9 δ) n).trans (Eq.trans ?_ (smf_D (id9 δ) n).symm)
  refine sN_cg (fun x hx => ?_)
  by_cases c : γ.1 x = true
  · rw [if_pos c, if_pos c]
  · have c0 : γ.1 x = false := by
      cases h9 : γ.1 x
      · rfl
      · exact absurd h9 c
    rw [if_neg c, if_neg c]
    congr 1
    show cf9 (dxv9 (rel γ.1) (rel (on9 γ.1 x)) (P1 x) (P2 x) (P3 x) (on9 γ.1 x) γ.2) δ = cf9 (dxv9 (rel γ.1) (rel (on9 γ.1 x)) (P1' x) (P2' x) (P3' x) (on9 γ.1 x) γ.2) δ
    rcases h x hx with ⟨e1, e2, e3⟩ | ⟨e0, e1, e2, e3⟩
    · rw [e1, e2, e3]
    · rw [e1, e2, e3, e0]
      have hE := hC.1.1 γ.1
      have hF := hC.1.1 (on9 γ.1 x)
      unfold dxv9
      by_cases c1 : rel γ.1 (P1 x) (P3 x)
      · rw [if_pos (dcb_t.mpr c1), if_pos (dcb_t.mpr (hE.2.1 _ _ c1)), hv _ _ c1]
        split
        · rfl
        · show (1 : Int) * _ + (1 * _ + 0) = 1 * _ + (1 * _ + 0)
          omega
      · rw [if_neg (fun h9 => c1 (dcb_t.mp h9)), if_neg (fun h9 => c1 (hE.2.1 _ _ (dcb_t.mp h9)))]
        by_cases c2 : γ.2 (P1 x) = true ∧ γ.2 (P3 x) = true
        · rw [if_pos c2, if_pos c2.symm]
        · rw [if_neg c2, if_neg (fun h9 => c2 h9.symm)]
          rcases hC.1.2 γ.1 x hx c0 with ⟨h1, h2⟩ | ⟨h1, -⟩
          · have p13 : rel (on9 γ.1 x) (P1 x) (P3 x) := (h2 _ _).mpr (adr_ab hE)
            have e4 : (fun g => γ.2 g || ((γ.2 (P1 x) || γ.2 (P3 x)) && dcb (rel (on9 γ.1 x) g (P1 x)))) = fun g => γ.2 g || ((γ.2 (P3 x) || γ.2 (P1 x)) && dcb (rel (on9 γ.1 x) g (P3 x))) := funext (fun g => by
              rw [Bool.or_comm (γ.2 (P1 x)), dcb_c (P := rel (on9 γ.1 x) g (P1 x)) (Q := rel (on9 γ.1 x) g (P3 x)) ⟨fun h9 => hF.2.2 _ _ _ h9 p13, fun h9 => hF.2.2 _ _ _ h9 (hF.2.1 _ _ p13)⟩])
            rw [e4]
          · exact absurd h1 c1
theorem be_flp {r : Nat} (h : ∀ x, x < n → flp9 P1 P2 P3 P1' P2' P3' x) (hC : cu9 n V G P1 P2 P3 rel) (hb : be9 p (Sg9 n V G rel k d) (D9 P1 P2 P3 rel n) r b) : be9 p (Sg9 n V G rel k d) (D9 P1' P2' P3' rel n) r b := be_cg (fun r γ hγ => flp_D h hC hγ.2.2.1) hb
end XCHM
end
