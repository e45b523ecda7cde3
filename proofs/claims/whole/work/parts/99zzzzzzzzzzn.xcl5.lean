/-! both sides: closure -/
section ICL
variable {w : Nat → Nat} {lp : Nat → Bool} {n : Nat} {T : ow_NT} {Rs : List (List Nat)}
theorem pn_pl_b {c : Nat} {S : ow_NP} {b b' : Nat → Bool} (hv : vn c S) (e : ∀ v, v < 2 * c → b' v = b v) (h : pn_pl c S b) : pn_pl c S b' := by
  obtain ⟨R, h1, f, X, h2, h3⟩ := h
  refine ⟨R, h1, f, X, fun d hd => ?_, h3⟩
  have : pn_ph S b' d = pn_ph S b d := by
    have := pn_al_lt hv hd
    unfold pn_ph pn_rt
    rw [e (pn_al S d / 2) (by omega)]
  rw [this]
  exact h2 d hd
theorem cl_ok {l : Nat} (hw : ∀ i, i < l → w i + 1 < n) (hQ : clQ w n l Rs) (hall : ∀ s, s < n → s ∈ Rs.flatten) : okF (rgS w lp l Rs).flatten l := by
  rw [rgS_fl]
  refine ⟨fmR_nd hQ.1, fun p => ⟨fun hp => fmR_in hp, fun ⟨h1, h2⟩ => ?_⟩⟩
  obtain ⟨s, hs, hp⟩ := rnL_all (lp := lp) hw h1 h2
  exact List.mem_flatMap.mpr ⟨s, hall s hs, hp⟩
theorem cl_iso (hl : T.1 ≤ 12) (hv : vn T.1 T.2.2.1) (hw : ∀ i, i < T.1 → w i + 1 < n) (hJ : clJ w lp n T.1 n T.2.2.1) (hG : ∀ i, i < T.1 → T.2.2.2 i = if lp i = true then 1 else -1) (hci : T.2.1 = cntB (fun s => (rnL w lp s T.1).isEmpty) n) (hQ : clQ w n T.1 Rs) (hall : ∀ s, s < n → s ∈ Rs.flatten) : isoV (rgS w lp T.1 Rs) (fun i => !lp i) (fun x => x) T := by
  have ok := cl_ok (lp := lp) hw hQ hall
  refine isoV_of (isoS_iff.mp ⟨okF_wk (by omega) ok, okF_len ok, hl, fun p hp => ((ok.2 p).mp hp).1, fun p q _ _ e => e, fun L hL p hp => ?_, fun p hp => ?_, ?_⟩) hv
  · obtain ⟨R, hR, rfl⟩ := List.mem_map.mp hL
    obtain ⟨h1, j, h2⟩ := hQ.2.2 R hR
    have hin : ∀ s, s ∈ R → s < n := fun s hs => hQ.2.1 s (List.mem_flatten.mpr ⟨R, hR, hs⟩)
    have nd : R.Nodup := by
      have := hQ.1
      rw [List.nodup_iff_pairwise_ne, List.pairwise_flatten] at this
      exact this.1 R hR
    exact cl_shw h2 (fmR_nd nd) (fun s hs => hJ.1 s (hin s hs)) (fun s hs => hJ.2 s (hin s hs) (psn_lt (hin s hs) T.1 hw)) hp
  · have hx := ((ok.2 p).mp hp).1
    rw [hG _ hx]
    show _ ↔ (!lp p.1) = true
    cases lp p.1
    · exact ⟨fun _ => rfl, fun _ => by decide⟩
    · exact ⟨fun h9 => absurd h9 (by decide), fun h9 => by cases h9⟩
  · rw [hci]
    unfold rgS
    rw [cl_cirs (fun R hR => ?_)]
    · exact cnt_perm hQ.1 (fun s => ⟨fun h => hQ.2.1 s h, hall s⟩)
    · obtain ⟨h1, j, h2⟩ := hQ.2.2 R hR
      have nd : R.Nodup := by
        have := hQ.1
        rw [List.nodup_iff_pairwise_ne, List.pairwise_flatten] at this
        exact this.1 R hR
      exact ⟨j, h2, h1, nd⟩
theorem cl_pl (hl : T.1 ≤ 12) (hv : vn T.1 T.2.2.1) (hw : ∀ i, i < T.1 → w i + 1 < n) (hJ : clJ w lp n T.1 n T.2.2.1) (hG : ∀ i, i < T.1 → T.2.2.2 i = if lp i = true then 1 else -1) : pm1 T ∧ nt_plane T = true := by
  refine ⟨fun x hx => ?_, ?_⟩
  · rw [hG x hx]
    cases lp x
    · exact Or.inr rfl
    · exact Or.inl rfl
  · rw [plane_iff hv hl]
    refine pn_pl_b hv (fun v hvl => ?_) (cl_plane (by omega) hw hv (fun v hvl => cl_nxG hw hJ hvl))
    unfold stG rsg
    rw [hG (v / 2) (by omega)]
    cases lp (v / 2) <;> rfl
end ICL
section XCO
variable {X : (Nat → Nat → Int32) → Prop} {z y : ow_MS} {St : plT} {x : Int32} {vl : Nat → Nat}
theorem xq_closure {b n l : Nat} {w : Nat → Nat} {lp : Nat → Bool} (h : gI X z) (hR : relR z St) (hb : b < 20) (hB : hBr z b n l) (hw : ltX 94 z b n l w lp) : Te (fun K => qe_X13_closure K (nI b) z) (fun r => rFl X z 2 r ∧ 12 < l ∨ l ≤ 12 ∧ (rFl X z 3 r ∧ allF St ∨ ∃ e Rs z4, lstF St e ∧ clQ w n l Rs ∧ Rs.length ≤ n ∧ (∀ s, s < n → s ∈ Rs.flatten) ∧ fr (fun g => g = 1 ∨ frK g) z z4 ∧ rKp X z4 e (rgS w lp l Rs) (fun i => !lp i) r)) := by
  have h1 := gI_1 (c := 0) h
  have hR1 := relR_1 (c := 0) hR
  have p1 := hB.1
  have p2 := hB.2.1
  have p3 := hB.2.2.1
  refine e_X13_closure ?_; unfold qm_X13_closure_0
  refine w_wrF (w_hasBX h1.2.2.2.2.2.1 (fun h0 => ?_) (fun c n' l' hc hx hh => w_ifF (by decide) ?_))
  · have := h0 b hb rfl
    have e : (usF z 1 0).2.1 96 b = nI n := hB.2.2.2.1
    rw [e] at this
    exact absurd this (nI_ne0 (by omega) (by omega))
  · have ec : b = c := nI_inj9 (by omega) (by omega) hx
    subst ec
    have e5 : (usF z 1 0).2.1 95 b = nI l := hB.2.2.2.2.1
    refine w_rdI ml95 rfl (by omega) e5 (w_le (b := 12) (by omega) (by omega) (fun h12 => ?_) (fun h12 => w_mono (w_failX (k := 2) h1 fr_1) (fun r hr => Or.inl ⟨hr, h12⟩)))
    refine w_freeX hR1 (fun hall => w_ifT rfl (w_mono (w_failX (k := 3) h1 fr_1) (fun r hr => Or.inr ⟨h12, Or.inl ⟨hr, hall⟩⟩))) (fun f hf => w_ifF (rn_neg1 (by have := hf.1; omega)) ?_)
    have hB1 : hBr (usF z 1 0) b n l := hB
    refine w_cs0 (xr_close hb hB1 (w := w) (lp := lp) hw) ?_
    rintro z4 ⟨f4, Rs, k1, k2, k3, k4, k5⟩
    have hwn : ∀ i, i < l → w i + 1 < n := fun i hi => (hw i hi).1
    have ok := cl_ok (lp := lp) hwn k1 k3
    have hz1 : z4.1 1 = 0 := by
      rw [(f4 1 (by unfold frK; omega)).1]
      exact po_usF_at
    refine w_mono (w_keepX (z0 := z4) (sg2 := fun i => !lp i) (gI_fr f4 (fun g hg => by unfold frK at hg; unfold per; omega) h1) (relR_fr f4 (by unfold frK; omega) hR1) hf hz1 fr_rf k4 k5 (okF_wk (by omega) ok) (by rw [okF_len ok]; omega) (by unfold rgS; rw [List.length_map]; omega)) (fun r hr => Or.inr ⟨h12, Or.inr ⟨f, Rs, z4, hf, k1, k2, k3, ?_, hr⟩⟩)
    exact fr_tr (fr_F rfl |> fr_mono (P := fun g => g = 1) (fun g hg => Or.inl hg)) (fr_mono (fun g hg => Or.inr hg) f4)
theorem xq_closure0 (h : gI X z) (hn : noB (z.2.1 96) x) : Te (fun K => qe_X13_closure K x z) (fun r => rFl X z 1 r) := by
  have h1 := gI_1 (c := 0) h
  refine e_X13_closure ?_; unfold qm_X13_closure_0
  refine w_wrF (w_hasBX h1.2.2.2.2.2.1 (fun h0 => w_ifT rfl (w_failX (k := 1) h1 fr_1)) (fun c n' l' hc hx hh => ?_))
  have h9 := hn c hc hx
  have e : z.2.1 96 c = nI n' := hh.2.2.2.1
  have := hh.1
  have := hh.2.1
  rw [e] at h9
  exact absurd h9 (nI_ne0 (by omega) (by omega))
theorem xc_closure0 (hN : gN y) (hC : relC y St) (hB : brC y) (hn : noB (y.2.1 15) x) : Te (fun K => ce_X11_closure vl K 0 x y) (fun r => r.1 = 1 ∧ r.2.2 = y) := by
  refine e_X11_closure ?_; unfold cm_X11_closure_0
  refine w_tc0 (tc_needBraid (brC_E hB)) ?_ ?_
  · rintro y1 ⟨h1, rfl⟩
    rcases h1 with ⟨-, hb⟩ | h1
    · obtain ⟨b, n, l, hb20, rfl, hn2, hn5, e15, -⟩ := isB_w hB hb
      have := hn b hb20 rfl
      rw [e15] at this
      exact absurd this (nI_ne0 (by omega) (by omega))
    · exact absurd (show (0 : Nat) = 1 from h1.1) (by decide)
  · rintro a y1 ha ⟨h1, rfl⟩
    rcases h1 with h1 | h1
    · exact absurd h1.1 ha
    · exact w_some ⟨h1.1, rfl⟩
theorem xc_closure {b n l : Nat} {w : Nat → Nat} {lp : Nat → Bool} {Rs : List (List Nat)} (hN : gN y) (hC : relC y St) (hS : okS St) (hB : brC y) (hb : b < 20) (hn2 : 2 ≤ n) (hn5 : n ≤ 5) (h15 : y.2.1 15 b = nI n) (hl : l ≤ 16) (h14 : y.2.1 14 b = nI l) (hw : ltX 13 y b n l w lp) : Te (fun K => ce_X11_closure vl K 0 (nI b) y) (fun r => r.1 = 4 ∧ r.2.2 = y ∧ 12 < l ∨ l ≤ 12 ∧ (r.1 = 3 ∧ r.2.2 = y ∧ allF St ∨ r.1 = 0 ∧ ∃ e, lstF St e ∧ (clQ w n l Rs → (∀ s, s < n → s ∈ Rs.flatten) → cKp y e (rgS w lp l Rs) (fun i => !lp i) r.2))) := by
  have hwn : ∀ i, i < l → w i + 1 < n := fun i hi => (hw i hi).1
  refine e_X11_closure ?_; unfold cm_X11_closure_0
  refine w_tc0 (tc_needBraid (brC_E hB)) ?_ ?_
  · rintro y1 ⟨h1, rfl⟩
    refine w_crI ch_14 rfl hb h14 (w_le (b := 12) (by omega) (by omega) (fun h12 => ?_) (fun h12 => w_some (Or.inl ⟨rfl, rfl, h12⟩)))
    refine w_tc1 (xc_free hN.1 hC hS) ?_ ?_
    · rintro v y2 ⟨h2, rfl⟩
      rcases h2 with h2 | ⟨-, e, rfl, he⟩
      · exact absurd (show (0 : Nat) = 3 from h2.1) (by decide)
      · obtain ⟨T, t1, t2⟩ := hN.2.1 4000 nH4
        refine w_crI ch_14 rfl hb h14 (w_crI ch_15 rfl hb h15 ?_)
        rw [m16]
        refine w_cs0 (xc_close t1 t2 hb hn2 hn5 h12 hw) ?_
        rintro y3 ⟨⟨T1, g1, g2, g3, g4, g5, g6⟩, f3⟩
        have hN3 : gN y3 := gN_net nH4 f3 (fun g hg => by unfold clR cP at hg; omega) ⟨T1, g1, g2.2.2.1⟩ hN
        have f3u : fr uP y2 y3 := fr_mono (fun g hg => by unfold clR cP at hg; unfold uP; omega) f3
        refine w_cs1 (tc_keep hN3 he.1 g1 g2) ?_
        rintro r y4 ⟨q0, q1, q2, ⟨Cs, os, q3, q4⟩, q5, -⟩
        subst g3
        refine w_some (Or.inr ⟨h12, Or.inr ⟨rfl, e, he, fun hQ hall => ?_⟩⟩)
        obtain ⟨m1, m2⟩ := cl_pl h12 g2.1 hwn g5 g4
        exact ⟨q0, q1, fr_tr f3u q2, ⟨T1, _, Cs, os, g2, m1, cl_iso h12 g2.1 hwn g5 g4 g6 hQ hall, m2, q3, q4⟩, fun d' C' h1 h2 h3 => q5 d' C' h1 h2 (slC_fr f3 (fun q hq h9 => by unfold cW at hq; unfold clR cP at h9; omega) h3)⟩
    · rintro a v y2 ha ⟨h2, rfl⟩
      rcases h2 with h2 | h2
      · exact w_some (Or.inr ⟨h12, Or.inl ⟨h2.1, rfl, h2.2⟩⟩)
      · exact absurd h2.1 ha
  · rintro a y1 ha ⟨h1, rfl⟩
    rcases h1 with h1 | h1
    · exact absurd h1.1 ha
    · have := h1.2 b hb rfl
      rw [h15] at this
      exact absurd this (nI_ne0 (by omega) (by omega))
/-- both sides, with other frames -/
def bothF (em : List (Nat × Nat)) (X : (Nat → Nat → Int32) → Prop) (P : Nat → Prop) (z y : ow_MS) (rr : Int32 × ow_MS) (rc : Nat × Int32 × ow_MS) : Prop := (∃ St, rel1 X rr.2 rc.2.2 St) ∧ fr P z rr.2 ∧ fr uP y rc.2.2 ∧ ansI em rr rc
theorem ltX_of {b n l : Nat} (hz : hBr z b n l) (hb : b < 20) (h : relB z y) : ∃ w lp, ltX 94 z b n l w lp ∧ ltX 13 y b n l w lp ∧ y.2.1 15 b = nI n ∧ y.2.1 14 b = nI l := by
  obtain ⟨w, lp, hw⟩ := br_let hz
  have p1 := hz.1
  have p2 := hz.2.1
  obtain ⟨k1, k2⟩ := h b hb
  obtain ⟨k3, k4⟩ := k2 (by rw [hz.2.2.2.1]; exact nI_ne0 (by omega) (by omega))
  refine ⟨w, lp, hw, fun i hi => ⟨(hw i hi).1, ?_⟩, k1.symm.trans hz.2.2.2.1, k3.symm.trans hz.2.2.2.2.1⟩
  rw [← k4 l hz.2.2.1 hz.2.2.2.2.1 i hi]
  exact (hw i hi).2
theorem br_cs (hz : gI X z) (x : Int32) : noB (z.2.1 96) x ∨ ∃ b n l, b < 20 ∧ x = nI b ∧ hBr z b n l := by
  by_cases h : ∃ b n l, b < 20 ∧ x = nI b ∧ hBr z b n l
  · exact Or.inr h
  · refine Or.inl (fun b hb e => ?_)
    rcases gBr_h (hz.2.2.2.2.2.1 b hb) with e9 | ⟨n, l, hh⟩
    · exact e9
    · exact absurd ⟨b, n, l, hb, e, hh⟩ h
theorem b_closure (h : rel1 X z y St) (hB : brC y) (hb : relB z y) : Te (fun K => qe_X13_closure K x z) (fun rr => Te (fun K => ce_X11_closure vl K 0 x y) (fun rc => bothF [(1, 1), (2, 4), (3, 3)] X (fun g => g = 120 ∨ rPk g) z y rr rc)) := by
  have up : ∀ {rr rc}, bothI [(1, 1), (2, 4), (3, 3)] X z y rr rc → bothF [(1, 1), (2, 4), (3, 3)] X (fun g => g = 120 ∨ rPk g) z y rr rc := fun ⟨a1, a2, a3, a4⟩ => ⟨a1, fr_mono (fun g hg => Or.inr hg) a2, a3, a4⟩
  rcases br_cs h.1 x with hn | ⟨b, n, l, hb20, rfl, hh⟩
  · refine te_two (xq_closure0 h.1 hn) (xc_closure0 (St := St) h.2.1 h.2.2.2.1 hB (noB_iff hb hn)) (fun rr rc hr hc => up ?_)
    refine bo_fail h hr (by simp) hc.1 ?_ ?_ ?_
    · rw [hc.2]
      exact h.2.1
    · rw [hc.2]
      exact fr_rf
    · rw [hc.2]
      exact h.2.2.2.1
  · obtain ⟨w, lp, w1, w2, w3, w4⟩ := ltX_of hh hb20 hb
    refine w_monoE (xq_closure h.1 h.2.2.1 hb20 hh w1) (fun rr hr => ?_)
    have p1 := hh.1
    have p2 := hh.2.1
    have p3 := hh.2.2.1
    have same : ∀ {j k : Nat} {rc : Nat × Int32 × ow_MS}, rFl X z j rr → (j, k) ∈ [(1, 1), (2, 4), (3, 3)] → rc.1 = k → rc.2.2 = y → bothF [(1, 1), (2, 4), (3, 3)] X (fun g => g = 120 ∨ rPk g) z y rr rc := fun hf hm e1 e2 => up (bo_fail h hf hm e1 (by rw [e2]; exact h.2.1) (by rw [e2]; exact fr_rf) (by rw [e2]; exact h.2.2.2.1))
    rcases hr with ⟨r1, r2⟩ | ⟨r0, hr⟩
    · refine w_monoE (xc_closure (Rs := []) h.2.1 h.2.2.2.1 h.2.2.2.2 hB hb20 p1 p2 w3 p3 w4 w2) (fun rc hc => ?_)
      rcases hc with ⟨c1, c2, -⟩ | ⟨c1, -⟩
      · exact same r1 (by simp) c1 c2
      · omega
    · rcases hr with ⟨r1, r2⟩ | ⟨e, Rs, z4, r1, r2, r3, r4, r5, r6⟩
      · refine w_monoE (xc_closure (Rs := []) h.2.1 h.2.2.2.1 h.2.2.2.2 hB hb20 p1 p2 w3 p3 w4 w2) (fun rc hc => ?_)
        rcases hc with ⟨-, -, c3⟩ | ⟨-, hc⟩
        · omega
        · rcases hc with ⟨c1, c2, -⟩ | ⟨-, f, c1, -⟩
          · exact same r1 (by simp) c1 c2
          · exact (all_lst r2 c1).elim
      · refine w_monoE (xc_closure (Rs := Rs) h.2.1 h.2.2.2.1 h.2.2.2.2 hB hb20 p1 p2 w3 p3 w4 w2) (fun rc hc => ?_)
        rcases hc with ⟨-, -, c3⟩ | ⟨-, hc⟩
        · omega
        · rcases hc with ⟨-, -, c3⟩ | ⟨c0, f, c1, c2⟩
          · exact (all_lst c3 r1).elim
          · have hc := c2 r2 r4
            have ef := lst_uni2 c1 r1
            subst ef
            have hne : rgS w lp l Rs ≠ [] := fun e9 => by
              have h0 := r4 0 (by omega)
              unfold rgS at e9
              rw [List.map_eq_nil_iff.mp e9] at h0
              cases h0
            have hR4 : relR z4 St := relR_fr r5 (by unfold frK; omega) h.2.2.1
            obtain ⟨k1, A', sg', k2, k3, k4⟩ := kp_join h.2.1.1 h.2.2.2.1 hR4 h.2.2.2.2 c1 (by unfold rgS; rw [List.length_map]; omega) hne hc r6
            refine ⟨⟨_, r6.1, hc.2.1, k3, k2, k4⟩, fr_tr (fr_mono (fun g hg => ?_) r5) (fr_mono (fun g hg => Or.inr hg) r6.2.2.2.1), hc.2.2.1, Or.inl ⟨r6.2.2.1, c0, k1.symm⟩⟩
            rcases hg with hg | hg
            · exact Or.inr (Or.inl hg)
            · unfold frK at hg
              rcases hg with hg | hg
              · exact Or.inl hg
              · exact Or.inr (Or.inr (Or.inr (Or.inr (by omega))))
end XCO
/-! what rests on what: the handles that rel2 speaks of -/
def r2Z (g : Nat) : Prop := g = 10 ∨ g = 11 ∨ 20 ≤ g ∧ g ≤ 22 ∨ g = 35 ∨ g = 36 ∨ g = 39 ∨ 94 ≤ g ∧ g ≤ 96
def r2Y (g : Nat) : Prop := 13 ≤ g ∧ g ≤ 15 ∨ g = 11001 ∨ g = 11002 ∨ 2001 ≤ g ∧ g ≤ 3005
theorem rel2_h {P Q : Nat → Prop} {z z1 y y1 : ow_MS} (hz : fr P z z1) (hy : fr Q y y1) (h1 : ∀ g, P g → ¬ r2Z g) (h2 : ∀ g, Q g → ¬ r2Y g) (h : rel2 z y) : rel2 z1 y1 := by
  obtain ⟨k1, k2, k3, ⟨Ms, k4, k5, k6⟩, Ns, k7, k8, k9⟩ := h
  have no : ∀ g, r2Z g → ¬ P g := fun g g1 h9 => h1 g h9 g1
  have no2 : ∀ g, r2Y g → ¬ Q g := fun g g1 h9 => h2 g h9 g1
  refine ⟨relT_k hz hy ⟨no _ (by unfold r2Z; omega), no _ (by unfold r2Z; omega)⟩ ⟨no2 _ (by unfold r2Y; omega), no2 _ (by unfold r2Y; omega)⟩ k1, relB_k hz hy ⟨no _ (by unfold r2Z; omega), no _ (by unfold r2Z; omega), no _ (by unfold r2Z; omega)⟩ ⟨no2 _ (by unfold r2Y; omega), no2 _ (by unfold r2Y; omega), no2 _ (by unfold r2Y; omega)⟩ k2, brC_fr hy ⟨no2 _ (by unfold r2Y; omega), no2 _ (by unfold r2Y; omega), no2 _ (by unfold r2Y; omega)⟩ k3, ⟨Ms, rlR_k hz ⟨no _ (by unfold r2Z; omega), no _ (by unfold r2Z; omega), no _ (by unfold r2Z; omega)⟩ k4, rlC_k hy (fun q hq => no2 q (by unfold cV at hq; unfold r2Y; omega)) k5, k6⟩, Ns, rlR_k hz ⟨no _ (by unfold r2Z; omega), no _ (by unfold r2Z; omega), no _ (by unfold r2Z; omega)⟩ k7, rlC_k hy (fun q hq => no2 q (by unfold cV at hq; unfold r2Y; omega)) k8, k9⟩
theorem c_closure {X : (Nat → Nat → Int32) → Prop} {z y : ow_MS} {vl : Nat → Nat} {x : Int32} (h : rel3 X z y) : Te (fun K => qe_X13_closure K x z) (fun rr => Te (fun K => ce_X11_closure vl K 0 x y) (fun rc => rel3 X rr.2 rc.2.2 ∧ ansI [(1, 1), (2, 4), (3, 3)] rr rc)) := by
  obtain ⟨⟨St, k⟩, hM, h2⟩ := id h
  exact w_monoE (b_closure k h2.2.2.1 h2.2.1) (fun rr hr => w_monoE hr (fun rc ⟨⟨St', b1⟩, b2, b3, b4⟩ => ⟨⟨⟨St', b1⟩, gM_u3 b1.2.1 b3 hM, rel2_h b2 b3 (fun g hg h9 => by unfold rPk rSc at hg; unfold r2Z at h9; omega) (fun g hg h9 => by unfold uP at hg; unfold r2Y at h9; omega) h2⟩, b4⟩))
