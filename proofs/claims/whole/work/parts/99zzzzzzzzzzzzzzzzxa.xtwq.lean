/-! two: what the reference's skein leaves alone -/
abbrev skE (H d g : Nat) : Prop := 1000 * (d + 5) ≤ g ∨ g = 41 ∨ g = H
section XTWQ
variable {X : (Nat → Nat → Int32) → Prop} {z : ow_MS}
theorem tp_leafC (c j a : Nat) (s : Int64) (y : ow_MS) (_ : c ≤ j + 6) (hj : j ≤ 12) (_ : 16 ≤ a) (_ : a ≤ 64) (h46 : y.1 46 = 0) : Te (fun K => qe_X13_leaf K (nI c) s (nI a - 40) (nI j) y) (fun z1 => fr (fun g => g = 42) y z1) := by
  refine e_X13_leaf ?_
  refine u_X13_leaf_0 ?_; unfold qm_X13_leaf_0
  exact w_rdF h46 (w_ifT rfl (w_rdJ ml42 rfl (by omega) rfl (w_if (fun _ => w_wrJ ml42 rfl (by omega) (w_some (fr_J rfl))) (fun _ => w_wrJ ml42 rfl (by omega) (w_some (fr_J rfl))))))
theorem tp_leafT (c j a : Nat) (s : Int64) (y : ow_MS) (hcj : c ≤ j + 6) (hj : j ≤ 12) (ha : 16 ≤ a) (ha2 : a ≤ 64) (h46 : y.1 46 = 1) : Te (fun K => qe_X13_leaf K (nI c) s (nI a - 40) (nI j) y) (fun z1 => fr (fun g => g = 44) y z1) := by
  have key : 1 ≤ c → ∀ (d t : Nat) (w : Int64) (y1 : ow_MS), t + d = c → fr (fun g => g = 44) y y1 → Tt (fun K i => q_X13_leaf K i 1 (nI c) (nI a - 40) (nI j) (nI (c - 1)) (nI t) s w 0 0 0 y1) (fun z1 => fr (fun g => g = 44) y z1) := by
    intro hc d
    induction d with
    | zero =>
      intro t w y1 ht hf
      refine u_X13_leaf_1 ?_; unfold qm_X13_leaf_1
      exact w_ltT (by omega) (by omega) (w_some hf)
    | succ d ih =>
      intro t w y1 ht hf
      have ix := lf_ix (j := j) (k := c - 1) (t := t) (a := a) hj (by omega) (by omega) ha ha2
      have hlt : 129 * (j + 20 - (c - 1)) + a + 2 * t + 24 - (c - 1) < 5289 := by omega
      have c2 : ∀ (y0 y2 : Int64), Tt (fun K i => q_X13_leaf K i 2 (nI c) (nI a - 40) (nI j) (nI (c - 1)) (nI t) s w (nI (129 * (j + 20 - (c - 1)) + a + 2 * t + 24 - (c - 1))) y0 y2 y1) (fun z1 => fr (fun g => g = 44) y z1) := by
        intro y0 y2
        refine u_X13_leaf_2 ?_; unfold qm_X13_leaf_2
        rw [nI_1]
        have hnz : (nI (t + 1)).toInt64 ≠ 0 := by
          rw [nI_l (by omega)]
          exact fun e => by
            have := (pk_lEQ (a := t + 1) (b := 0) (by omega) (by omega)).mp e
            omega
        exact w_wrJ ml44 rfl hlt (w_nzJ hnz (ih (t + 1) _ _ (by omega) (fr_J2 hf rfl)))
      refine u_X13_leaf_1 ?_; unfold qm_X13_leaf_1
      rw [ix]
      exact w_ltF (by omega) (by omega) (w_rdJ ml44 rfl hlt rfl (w_if (fun _ => c2 _ _) (fun _ => c2 _ _)))
  rcases Nat.eq_zero_or_pos c with h0 | h0
  · rw [h0]
    refine e_X13_leaf ?_
    refine u_X13_leaf_0 ?_; unfold qm_X13_leaf_0
    rw [show nI 0 - 1 = -1 from rfl]
    refine w_rdF h46 (w_ifF (by decide) ?_)
    refine u_X13_leaf_1 ?_; unfold qm_X13_leaf_1
    exact w_ifT (by decide) (w_some fr_rf)
  · refine e_X13_leaf ?_
    refine u_X13_leaf_0 ?_; unfold qm_X13_leaf_0
    rw [show nI c - 1 = nI (c - 1) from pk_sub (b := 1) h0]
    exact w_rdF h46 (w_ifF (by decide) (key h0 c 0 s y (by omega) fr_rf))
theorem tp_skeinH {e : Int32} {H : Nat} (hH : H = 42 ∨ H = 44) (hleaf : ∀ (c j a : Nat) (s : Int64) (y : ow_MS), c ≤ j + 6 → j ≤ 12 → 16 ≤ a → a ≤ 64 → y.1 46 = e → Te (fun K => qe_X13_leaf K (nI c) s (nI a - 40) (nI j) y) (fun z1 => fr (fun g => g = H) y z1)) : ∀ (f depth dd k j a : Nat) (A : rn_L) (s : Int64) (z : ow_MS), f < dd → depth + f ≤ 12 → j ≤ depth → wkF A.flatten → A.flatten.length ≤ 24 → A.length ≤ 6 + j → rn_At z (1000 * (depth + 4)) A [] → gPre A k → ouT A k f → 40 ≤ a + 2 * depth → a ≤ 40 + 2 * depth → z.1 46 = e → Te (fun K => qd_X13_skein K dd (nI depth) s (nI a - 40) (nI j) z) (fun z1 => fr (skE H depth) z z1) := by
  intro f
  induction f using Nat.strongRecOn with
  | ind f ih =>
  intro depth dd k j a A s z hdd hdf hj hF hl hC hA hg ho ha1 ha2 h46
  obtain ⟨dd, rfl⟩ : ∃ d', dd = d' + 1 := ⟨dd - 1, by omega⟩
  have hd := wkF_ok hF
  have hn : mw_net (1000 * (depth + 4)) := pnL (by omega)
  have hn2 : mw_net (1000 * (depth + 1 + 4)) := pnL (by omega)
  have cx : ∀ {i}, i < A.flatten.length → crs A i < 40 ∧ uns A i < 2 := fun hi => by
    obtain ⟨g1, g2, -⟩ := hF.2 _ (List.mem_of_getElem? (vAt_of hi))
    exact ⟨g1, g2⟩
  let Q : ow_MS → Prop := fun z1 => fr (skE H depth) z z1
  have mono41 : ∀ {y : ow_MS}, fr (fun g => g = 41) z y → fr (skE H depth) z y := fun hf => fr_mono (fun g hg => Or.inr (Or.inl hg)) hf
  have aA : ∀ {y : ow_MS}, fr (fun g => g = 41) z y → rn_At y (1000 * (depth + 4)) A [] := fun hf => fr_At hf (fun g hg => by omega) hA
  have aV : ∀ {y : ow_MS}, fr (fun g => g = 41) z y → y.1 (1000 * (depth + 4) + 1) = nI A.flatten.length := fun hf => by rw [(aA hf).1, List.append_nil]
  have c5 : ∀ (x8 : Int32) (y : ow_MS), fr (fun g => g = 41) z y → Tt (fun K i => q_X13_skein K (qd_X13_skein K dd) i 5 (nI depth) (nI a - 40) (nI j) (-1) x8 0 0 0 s (1000 * (depth + 4)) 0 0 0 0 0 0 0 0 y) Q := by
    intro x8 y hf
    refine u_X13_skein_5 ?_; unfold qm_X13_skein_5
    refine w_ifT rfl (w_rdF (aA hf).2.1 (w_cs0 (hleaf _ _ _ _ _ (by omega) (by omega) (by omega) (by omega) (by rw [(hf 46 (by decide)).1]; exact h46)) (fun z1 h9 => w_some ?_)))
    exact fr_tr (mono41 hf) (fr_mono (fun g hg => Or.inr (Or.inr hg)) h9)
  have bad : ∀ (v : Nat) (x8 : Int32) (y : ow_MS), fr (fun g => g = 41) z y → v < A.flatten.length → (∀ u, u < v → crs A u ≠ crs A v) → uns A v ≠ 0 → (∀ u, u < v → (∀ t, t < u → crs A t ≠ crs A u) → uns A u = 0) → Tt (fun K i => q_X13_skein K (qd_X13_skein K dd) i 5 (nI depth) (nI a - 40) (nI j) (nI v) x8 0 0 0 s (1000 * (depth + 4)) 0 0 0 0 0 0 0 0 y) Q := by
    intro v x8 y hf hv hfst hb hgood
    have hAy := aA hf
    obtain ⟨g1, g2, g3⟩ := rn_c_in A v hv
    have hml := mtf_lt hd hv
    have hmc := crs_mtf hd hv
    have hmn := mtf_ne hd hv
    have hvm : v < mtf A v := by
      rcases Nat.lt_or_ge (mtf A v) v with h8 | h8
      · exact absurd hmc (hfst _ h8)
      · omega
    obtain ⟨fc, hfc, kF, kg, ko⟩ := sk_ch (x := crs A v) hF hg ho hv rfl hfst hb hgood
    have c13 : ∀ (a' : Nat) (x : Int32) (x11 : Int32) (s1 : Int64) (y5 : ow_MS), x = nI a' - 40 → 40 ≤ a' + 2 * (depth + 1) → a' ≤ 40 + 2 * (depth + 1) → fr (skE H depth) z y5 → rn_At y5 (1000 * (depth + 1 + 4)) (A.map (List.map (flp (fun y => decide (y = crs A v))))) [] → Tt (fun K i => q_X13_skein K (qd_X13_skein K dd) i 13 (nI depth) (nI a - 40) (nI j) (nI v) (nI (rn_c A v)) (nI (crs A v)) (nI (mtf A v)) x11 s (1000 * (depth + 4)) (1000 * (depth + 1 + 4)) x 0 (nI (depth + 1)) 0 0 s1 0 y5) Q := by
      intro a' x x11 s1 y5 hx h1 h2 hf5 hA5
      rw [hx]
      refine u_X13_skein_13 ?_; unfold qm_X13_skein_13
      refine w_cs0 (ih fc (by omega) (depth + 1) dd (v + 1) j a' _ s1 y5 (by omega) (by omega) (by omega) kF (by rw [flp_len]; exact hl) (by rw [List.length_map]; exact hC) hA5 kg ko h1 h2 (by rw [(hf5 46 (by unfold skE; omega)).1]; exact h46)) (fun z6 h6 => w_some ?_)
      exact fr_tr hf5 (fr_mono (fun g hg => by unfold skE at hg ⊢; omega) h6)
    have c8 : ∀ (t0 : Int32), Tt (fun K i => q_X13_skein K (qd_X13_skein K dd) i 8 (nI depth) (nI a - 40) (nI j) (nI v) (nI (rn_c A v)) (nI (crs A v)) (nI (mtf A v)) 0 s (1000 * (depth + 4)) 0 t0 0 0 0 0 0 0 y) Q := by
      intro t0
      refine u_X13_skein_8 ?_; unfold qm_X13_skein_8
      rw [show nI depth + 1 = nI (depth + 1) from nI_1 _]
      refine w_rdN rfl (by omega) (w_cs0 (tp_smoothIn2 hn hn2 (by omega) hl (by omega) hAy g1 g2 g3 hvm hml) (fun z2 ⟨⟨q, hq, C, b1, b2, b3, b4, b5⟩, s2, f2⟩ => ?_))
      obtain ⟨fs, hfs, mF, mg, mo, ml⟩ := sk_sm hF hg ho hv hml hvm hmc hfst hb hgood b3 b4 (fun i hi => b5 i hi ⟨by omega, by omega, by omega⟩)
      have hz2 : fr (skE H depth) z z2 := fr_tr (mono41 hf) (fr_mono (fun g hg => Or.inl (by omega)) f2)
      have hA2 : rn_At z2 (1000 * (depth + 4)) A [] := fr_At f2 (fun g hg => by omega) hAy
      have c11 : ∀ (a' : Nat) (x : Int32) (s1 : Int64), x = nI a' - 40 → 40 ≤ a' + 2 * (depth + 1) → a' ≤ 40 + 2 * (depth + 1) → Tt (fun K i => q_X13_skein K (qd_X13_skein K dd) i 11 (nI depth) (nI a - 40) (nI j) (nI v) (nI (rn_c A v)) (nI (crs A v)) (nI (mtf A v)) t0 s (1000 * (depth + 4)) (1000 * (depth + 1 + 4)) x 0 (nI (depth + 1)) 0 0 s1 0 z2) Q := by
        intro a' x s1 hx h1 h2
        rw [hx]
        refine u_X13_skein_11 ?_; unfold qm_X13_skein_11
        rw [show nI depth + 1 = nI (depth + 1) from nI_1 _, show nI j + 1 = nI (j + 1) from nI_1 _]
        refine w_cs0 (ih fs (by omega) (depth + 1) dd v (j + 1) a' _ s1 z2 (by omega) (by omega) (by omega) mF (by omega) (by rw [List.length_map, b1]; omega) b2 mg mo h1 h2 (by rw [(hz2 46 (by unfold skE; omega)).1]; exact h46)) (fun z3 h3 => ?_)
        have hA3 : rn_At z3 (1000 * (depth + 4)) A [] := fr_At h3 (fun g hg => by unfold skE at hg; omega) hA2
        refine w_cs0 (tn_copy hn2 hn (by omega) (by omega) (by omega) hA3) (fun z4 ⟨hA4, f4, _⟩ => w_cs0 (tp_changeIn hn2 (by omega) (cx hv).1 (fun u hu => ⟨(cx hu).2, (cx hu).1⟩) hA4) (fun z5 ⟨hA5, f5, _⟩ => ?_))
        have hz5 : fr (skE H depth) z z5 := fr_tr hz2 (fr_tr (fr_mono (fun g hg => by unfold skE at hg ⊢; omega) h3) (fr_tr (fr_mono (fun g hg => Or.inl (by omega)) f4) (fr_mono (fun g hg => Or.inl (by omega)) f5)))
        refine w_rdF rfl (w_if (fun _ => c13 40 _ _ _ z5 rfl (by omega) (by omega) hz5 hA5) (fun _ => w_if (fun _ => ?_) (fun _ => ?_)))
        · refine u_X13_skein_12 ?_; unfold qm_X13_skein_12
          exact c13 (a - 2) _ _ _ z5 (sk_pw2 (by omega)).1 (by omega) (by omega) hz5 hA5
        · refine u_X13_skein_12 ?_; unfold qm_X13_skein_12
          exact c13 (a + 2) _ _ _ z5 (sk_pw2 (by omega)).2 (by omega) (by omega) hz5 hA5
      have c9 : ∀ (y0 : Int64), Tt (fun K i => q_X13_skein K (qd_X13_skein K dd) i 9 (nI depth) (nI a - 40) (nI j) (nI v) (nI (rn_c A v)) (nI (crs A v)) (nI (mtf A v)) t0 s (1000 * (depth + 4)) (1000 * (depth + 1 + 4)) 0 (nI (depth + 1)) 0 0 y0 0 0 z2) Q := by
        intro y0
        refine u_X13_skein_9 ?_; unfold qm_X13_skein_9
        refine w_rdF rfl (w_if (fun _ => c11 40 _ _ rfl (by omega) (by omega)) (fun _ => w_if (fun _ => ?_) (fun _ => ?_)))
        · refine u_X13_skein_10 ?_; unfold qm_X13_skein_10
          exact c11 (a - 1) _ _ (sk_pw (by omega)).1 (by omega) (by omega)
        · refine u_X13_skein_10 ?_; unfold qm_X13_skein_10
          exact c11 (a + 1) _ _ (sk_pw (by omega)).2 (by omega) (by omega)
      exact w_if (fun _ => c9 _) (fun _ => c9 _)
    have c7 : ∀ (d w : Nat), w + d = mtf A v → v < w → Tt (fun K i => q_X13_skein K (qd_X13_skein K dd) i 7 (nI depth) (nI a - 40) (nI j) (nI v) (nI (rn_c A v)) (nI (crs A v)) (nI w) 0 s (1000 * (depth + 4)) 0 0 0 0 0 0 0 0 y) Q := by
      intro d
      induction d with
      | zero =>
        intro w hw hvw
        have hw : w = mtf A v := by omega
        subst hw
        refine u_X13_skein_7 ?_; unfold qm_X13_skein_7
        exact w_rdI (pl4 hn) rfl (by omega) (at_cu hAy hml).1 (w_ifT (by rw [hmc]) (w_rdI (pl6 hn) rfl (cx hv).1 rfl (w_if (fun _ => c8 _) (fun _ => c8 _))))
      | succ d ih7 =>
        intro w hw hvw
        have hwl : w < A.flatten.length := by omega
        refine u_X13_skein_7 ?_; unfold qm_X13_skein_7
        rw [show nI w + 1 = nI (w + 1) from nI_1 _]
        refine w_rdI (pl4 hn) rfl (by omega) (at_cu hAy hwl).1 (w_ifF (fun e9 => ?_) (ih7 (w + 1) (by omega) (by omega)))
        have e8 := (nI_eq (by have := (cx hwl).1; omega) (by have := (cx hv).1; omega)).mp e9
        exact sk_two hd hv hml hwl (by omega) hmc (by omega) (by omega) e8
    have c6 : ∀ (d c : Nat), c + d = rn_c A v → Tt (fun K i => q_X13_skein K (qd_X13_skein K dd) i 6 (nI depth) (nI a - 40) (nI j) (nI v) (nI c) 0 0 0 s (1000 * (depth + 4)) 0 0 0 0 0 0 0 0 y) Q := by
      intro d
      induction d with
      | zero =>
        intro c hc
        have hc : c = rn_c A v := by omega
        subst hc
        refine u_X13_skein_6 ?_; unfold qm_X13_skein_6
        rw [show nI (rn_c A v) + 1 = nI (rn_c A v + 1) from nI_1 _, show nI v + 1 = nI (v + 1) from nI_1 _]
        exact w_rdI (pl3 hn) rfl (by omega) (hAy.2.2.1 _ (by omega)) (w_ltT (by have := rn_b_le A (rn_c A v + 1); unfold rn_b at this; omega) g3 (w_rdI (pl4 hn) rfl (by omega) (at_cu hAy hv).1 (c7 (mtf A v - (v + 1)) (v + 1) (by omega) (by omega))))
      | succ d ih6 =>
        intro c hc
        refine u_X13_skein_6 ?_; unfold qm_X13_skein_6
        rw [show nI c + 1 = nI (c + 1) from nI_1 _]
        have hle : rn_b A (c + 1) ≤ rn_b A (rn_c A v) := rn_b_mono2 (by omega)
        exact w_rdI (pl3 hn) rfl (by omega) (hAy.2.2.1 _ (by omega)) (w_ltF (by omega) (show rn_b A (c + 1) ≤ v by omega) (ih6 (c + 1) (by omega)))
    refine u_X13_skein_5 ?_; unfold qm_X13_skein_5
    exact w_ifF (rn_neg1 (by omega)) (c6 (rn_c A v) 0 (by omega))
  have scan : ∀ (d v : Nat) (y : ow_MS), v + d = A.flatten.length → fr (fun g => g = 41) z y → metR A v y → (∀ u, u < v → (∀ t, t < u → crs A t ≠ crs A u) → uns A u = 0) → Tt (fun K i => q_X13_skein K (qd_X13_skein K dd) i 2 (nI depth) (nI a - 40) (nI j) (-1) (nI v) 0 0 0 s (1000 * (depth + 4)) 0 0 0 0 0 0 0 0 y) Q := by
    intro d
    induction d with
    | zero =>
      intro v y hv hf hm hgd
      refine u_X13_skein_2 ?_; unfold qm_X13_skein_2
      exact w_rdF (aV hf) (w_leT (by omega) (by omega) (c5 _ y hf))
    | succ d ihs =>
      intro v y hv hf hm hgd
      have hvl : v < A.flatten.length := by omega
      have hcv := cx hvl
      have next : ∀ (y2 : ow_MS), fr (fun g => g = 41) z y2 → metR A (v + 1) y2 → (∀ u, u < v + 1 → (∀ t, t < u → crs A t ≠ crs A u) → uns A u = 0) → Tt (fun K i => q_X13_skein K (qd_X13_skein K dd) i 4 (nI depth) (nI a - 40) (nI j) (-1) (nI v) (nI (crs A v)) 0 0 s (1000 * (depth + 4)) 0 0 0 0 0 0 0 0 y2) Q := by
        intro y2 hf2 hm2 hg2
        refine u_X13_skein_4 ?_; unfold qm_X13_skein_4
        rw [show nI v + 1 = nI (v + 1) from nI_1 _]
        exact ihs (v + 1) y2 (by omega) hf2 hm2 hg2
      refine u_X13_skein_2 ?_; unfold qm_X13_skein_2
      refine w_rdF (aV hf) (w_leF (by omega) hvl (w_ifT rfl (w_rdI (pl4 hn) rfl (by omega) (at_cu (aA hf) hvl).1 (w_rdI ml41 rfl hcv.1 rfl ?_))))
      rcases hm _ hcv.1 with ⟨e0, hno⟩ | ⟨e1, u, hu, hue⟩
      · rw [e0]
        have hf2 : fr (fun g => g = 41) z (usI y 41 (crs A v) (vp_nar .boolean 1)) := fr_I2 hf rfl
        refine w_ifT rfl (w_wrZ ml41 rfl hcv.1 (w_rdI (pl5 hn) rfl (by omega) (at_cu (aA hf2) hvl).2 (w_if (fun h9 => ?_) (fun h9 => ?_))))
        · have hb : uns A v ≠ 0 := fun e => by rw [e] at h9; exact absurd h9 (by decide)
          refine u_X13_skein_3 ?_; unfold qm_X13_skein_3
          refine u_X13_skein_4 ?_; unfold qm_X13_skein_4
          rw [show nI v + 1 = nI (v + 1) from nI_1 _]
          refine u_X13_skein_2 ?_; unfold qm_X13_skein_2
          exact w_rdF (aV hf2) (w_le (by omega) (by omega) (fun _ => bad v _ _ hf2 hvl hno hb hgd) (fun _ => w_ifF (rn_neg1 (by omega)) (bad v _ _ hf2 hvl hno hb hgd)))
        · have hb : uns A v = 0 := by
            rcases Nat.eq_zero_or_pos (uns A v) with h8 | h8
            · exact h8
            · exact absurd (show nI (uns A v) = 1 by rw [show uns A v = 1 by omega]; rfl) h9
          refine u_X13_skein_3 ?_; unfold qm_X13_skein_3
          refine next _ hf2 (fun x hx => ?_) (fun u hu hfu => ?_)
          · by_cases hxv : x = crs A v
            · rw [hxv]
              exact Or.inr ⟨po_usI_at.trans (by decide), v, by omega, rfl⟩
            · rcases hm x hx with ⟨a1, a2⟩ | ⟨a1, u, hu, a2⟩
              · refine Or.inl ⟨rd_ne hxv a1, fun u hu e => ?_⟩
                by_cases huv : u = v
                · rw [huv] at e
                  exact hxv e.symm
                · exact a2 u (by omega) e
              · exact Or.inr ⟨rd_ne hxv a1, u, by omega, a2⟩
          · by_cases huv : u = v
            · rw [huv]; exact hb
            · exact hgd u (by omega) hfu
      · rw [e1]
        refine w_ifF (by decide) (next y hf (fun x hx => ?_) (fun t ht hft => ?_))
        · rcases hm x hx with ⟨a1, a2⟩ | ⟨a1, t, ht, a2⟩
          · refine Or.inl ⟨a1, fun t ht e => ?_⟩
            by_cases htv : t = v
            · rw [htv] at e
              exact a2 u hu (hue.trans e)
            · exact a2 t (by omega) e
          · exact Or.inr ⟨a1, t, by omega, a2⟩
        · by_cases htv : t = v
          · rw [htv] at hft
            exact absurd hue (hft u hu)
          · exact hgd t (by omega) hft
  have clr : ∀ (d i : Nat) (y : ow_MS), i + d = 40 → fr (fun g => g = 41) z y → (∀ x, x < i → y.2.1 41 x = 0) → Tt (fun K t => q_X13_skein K (qd_X13_skein K dd) t 1 (nI depth) (nI a - 40) (nI j) (nI i) 0 0 0 0 s (1000 * (depth + 4)) 0 0 0 0 0 0 0 0 y) Q := by
    intro d
    induction d with
    | zero =>
      intro i y hi hf hx
      refine u_X13_skein_1 ?_; unfold qm_X13_skein_1
      exact w_leT (a := 40) (by omega) (by omega) (scan A.flatten.length 0 y (by omega) hf (fun x h9 => Or.inl ⟨hx x (by omega), fun u hu => absurd hu (by omega)⟩) (fun u hu => absurd hu (by omega)))
    | succ d ihc =>
      intro i y hi hf hx
      refine u_X13_skein_1 ?_; unfold qm_X13_skein_1
      rw [show nI i + 1 = nI (i + 1) from nI_1 _]
      refine w_leF (a := 40) (by omega) (by omega) (w_wrZ ml41 rfl (by omega) (ihc (i + 1) _ (by omega) (fr_I2 hf rfl) (fun x h9 => ?_)))
      by_cases hxi : x = i
      · rw [hxi]
        exact po_usI_at.trans (by decide)
      · exact rd_ne hxi (hx x (by omega))
  refine w_qd ?_
  refine u_X13_skein_0 ?_; unfold qm_X13_skein_0
  exact w_rdN rfl (by omega) (clr 40 0 z (by omega) fr_rf (fun x hx => absurd hx (by omega)))
theorem tp_skeinH0 {e : Int32} {H : Nat} (hH : H = 42 ∨ H = 44) (hleaf : ∀ (c j a : Nat) (s : Int64) (y : ow_MS), c ≤ j + 6 → j ≤ 12 → 16 ≤ a → a ≤ 64 → y.1 46 = e → Te (fun K => qe_X13_leaf K (nI c) s (nI a - 40) (nI j) y) (fun z1 => fr (fun g => g = H) y z1)) {A : rn_L} {c : Nat} (hok : okF A.flatten c) (hc : c ≤ 12) (hC : A.length ≤ 6) (hA : rn_At z 4000 A []) (h46 : z.1 46 = e) : Te (fun K => qe_X13_skein K 0 1 0 0 z) (fun z1 => fr (skE H 0) z z1) := by
  have hl := okF_len hok
  have hw : wkF A.flatten := okF_wk (by omega) hok
  have ho : ouT A 0 c := ⟨List.range c, by rw [List.length_range]; exact Nat.le_refl _, fun v hv => Or.inr (List.mem_range.mpr ((hok.2 _).mp (List.mem_of_getElem? (vAt_of hv))).1)⟩
  exact tp_skeinH hH hleaf c 0 16 0 0 40 A 1 z (by omega) (by omega) (Nat.le_refl _) hw (by omega) (by omega) hA (fun v hv => absurd hv (by omega)) ho (by omega) (by omega) h46
end XTWQ
