/-! the reference's isPlane is the class's -/
section XP0
variable {A : rn_L} {sg : Nat → Bool} {f : Nat → Nat} {T : ow_NT} {m : Nat → Nat} {P : Nat}
theorem parts_cnt0 (hi : isoN A sg f T) (hv : vn T.1 T.2.2.1) (hk : mk A m P) : ((List.range P).filter (fun p => !(pvl A m p A.flatten.length).isEmpty)).length = (np_parts T.1 T.2.2.1.1).2 := by
  have hc := hi.2.2.1
  obtain ⟨p1, p2, p3, p4⟩ := parts_I hv hc
  let F := (np_parts T.1 T.2.2.1.1).1
  let n := (np_parts T.1 T.2.2.1.1).2
  have hex : ∀ r, r < n → ∃ v, v < A.flatten.length ∧ F (lbv A f v) = nI r := by
    intro r hr
    obtain ⟨k, k1, k2⟩ := p3 r hr
    obtain ⟨v, v1, v2⟩ := lbv_sur hi k1
    exact ⟨v, v1, by rw [v2]; exact k2⟩
  let vr : Nat → Nat := fun r => if h : ∃ v, v < A.flatten.length ∧ F (lbv A f v) = nI r then Classical.choose h else 0
  have hvr : ∀ r, r < n → vr r < A.flatten.length ∧ F (lbv A f (vr r)) = nI r := by
    intro r hr
    have h := hex r hr
    have e : vr r = Classical.choose h := dif_pos h
    rw [e]
    exact Classical.choose_spec h
  have hn31 : n < 2 ^ 31 := by
    have : n ≤ 2 * T.1 := p4
    omega
  have pm : ((List.range n).map (fun r => m (rn_c A (vr r)))).Perm ((List.range P).filter (fun p => !(pvl A m p A.flatten.length).isEmpty)) := by
    refine (List.perm_ext_iff_of_nodup (nodup_map List.nodup_range (fun a b ha hb e => ?_)) (nodup_filter List.nodup_range)).mpr (fun p => ?_)
    · have ha := List.mem_range.mp ha
      have hb := List.mem_range.mp hb
      have h1 := (part_iff hi hv hk (hvr a ha).1 (hvr b hb).1).mpr e
      have h2 : nI a = nI b := by
        rw [← (hvr a ha).2, ← (hvr b hb).2]
        exact h1
      exact nI_inj9 (by omega) (by omega) h2
    · rw [List.mem_map, List.mem_filter, List.mem_range, Bool.not_eq_true', List.isEmpty_eq_false_iff]
      constructor
      · rintro ⟨r, r1, r2⟩
        have hr := hvr r (List.mem_range.mp r1)
        refine ⟨by rw [← r2]; exact hk.1 _ (rn_c_in A _ hr.1).1, ?_⟩
        exact List.ne_nil_of_mem (pvl_m.mpr ⟨hr.1, r2⟩)
      · rintro ⟨q1, q2⟩
        obtain ⟨v, hv9⟩ := List.exists_mem_of_ne_nil _ q2
        have hv1 := pvl_m.mp hv9
        obtain ⟨r, r1, r2⟩ := p2 _ (lbv_lt hi hv1.1)
        refine ⟨r, List.mem_range.mpr r1, ?_⟩
        rw [← hv1.2]
        refine (part_iff hi hv hk (hvr r r1).1 hv1.1).mp ?_
        exact (hvr r r1).2.trans r2.symm
  have h1 := pm.length_eq
  rw [List.length_map, List.length_range] at h1
  exact h1.symm
/-- the dart of a side -/
def dtS (A : rn_L) (f : Nat → Nat) (s : Nat) : Nat := if s % 2 = 0 then 2 * lbv A f (s / 2) else 2 * lbv A f (rn_nx A (s / 2)) + 1
theorem dtS_lt (hi : isoN A sg f T) {s : Nat} (hs : s < 2 * A.flatten.length) : dtS A f s < 4 * T.1 := by
  have h1 := lbv_lt hi (show s / 2 < A.flatten.length by omega)
  have h2 := lbv_lt hi (rn_nx_lt (A := A) (show s / 2 < A.flatten.length by omega))
  unfold dtS
  split <;> omega
theorem dtS_sur (hi : isoN A sg f T) {d : Nat} (hd : d < 4 * T.1) : ∃ s, s < 2 * A.flatten.length ∧ dtS A f s = d := by
  obtain ⟨v, v1, v2⟩ := lbv_sur hi (show d / 2 < 2 * T.1 by omega)
  by_cases e : d % 2 = 0
  · refine ⟨2 * v, by omega, ?_⟩
    unfold dtS
    rw [if_pos (by omega), show 2 * v / 2 = v by omega, v2]
    omega
  · have h1 := rn_pv_lt (A := A) v1
    refine ⟨2 * rn_pv A v + 1, by omega, ?_⟩
    unfold dtS
    rw [if_neg (by omega), show (2 * rn_pv A v + 1) / 2 = rn_pv A v by omega, nx_pv v1, v2]
    omega
theorem smv_b (hi : isoN A sg f T) (hp : pm1 T) {v : Nat} (hv : v < A.flatten.length) : stG T.2.2.2 (lbv A f v) = smv A sg v := by
  obtain ⟨h1, h2⟩ := lbv_hf hi hv
  have h3 := hi.2.2.2.2.2.2.1 v hv
  have hx := hi.2.2.2.1 v hv
  have hu : uns A v < 2 := (hi.1.2 _ (vAt_mem hv)).2.1
  unfold stG smv
  rw [h1, h2]
  have h4 : decide (0 < T.2.2.2 (f (crs A v))) = !sg (crs A v) := by
    rcases hp _ hx with e | e
    · rw [e] at h3 ⊢
      have : sg (crs A v) = false := by
        cases h9 : sg (crs A v) with
        | false => rfl
        | true => exact absurd (h3.mpr h9) (by decide)
      rw [this]
      rfl
    · rw [e] at h3 ⊢
      rw [h3.mp (by decide)]
      rfl
  rw [h4]
  rcases (show uns A v = 0 ∨ uns A v = 1 by omega) with e | e <;> rw [e] <;> cases sg (crs A v) <;> rfl
theorem dtS_ph (hi : isoN A sg f T) (hvn : vn T.1 T.2.2.1) (hp : pm1 T) {s : Nat} (hs : s < 2 * A.flatten.length) : pn_ph T.2.2.1 (stG T.2.2.2) (dtS A f s) = dtS A f (phi A sg s) := by
  have hv : s / 2 < A.flatten.length := by omega
  have hn := rn_nx_lt (A := A) hv
  have hh := hdv_lt (A := A) hs
  obtain ⟨m1, -, m2, -⟩ := lbv_mt hi hh
  have hb := smv_b hi hp hh
  have nx : T.2.2.1.1 (lbv A f (s / 2)) = lbv A f (rn_nx A (s / 2)) := hi.2.2.2.2.2.1 _ hv
  have hpv := nx_pv (A := A) m1
  unfold pn_ph pn_al
  by_cases e : s % 2 = 0
  · have ed : dtS A f s = 2 * lbv A f (s / 2) := if_pos e
    have eh : hdv A s = rn_nx A (s / 2) := if_pos e
    rw [ed, if_pos (by omega), show 2 * lbv A f (s / 2) / 2 = lbv A f (s / 2) by omega, nx, ← eh]
    unfold pn_rt
    rw [show (2 * lbv A f (hdv A s) + 1) / 2 = lbv A f (hdv A s) by omega, show (2 * lbv A f (hdv A s) + 1) % 2 = 1 by omega, hb, ← m2]
    unfold phi wyv
    rw [e]
    cases smv A sg (hdv A s)
    · rw [if_neg (by decide), if_neg (by decide)]
      unfold dtS
      rw [if_neg (by omega), show (2 * rn_pv A (mtf A (hdv A s)) + 1) / 2 = rn_pv A (mtf A (hdv A s)) by omega, hpv]
    · rw [if_pos (by decide), if_pos (by decide)]
      unfold dtS
      rw [if_pos (by omega), show 2 * mtf A (hdv A s) / 2 = mtf A (hdv A s) by omega]
  · have ed : dtS A f s = 2 * lbv A f (rn_nx A (s / 2)) + 1 := if_neg e
    have eh : hdv A s = s / 2 := if_neg e
    have pv : T.2.2.1.2 (lbv A f (rn_nx A (s / 2))) = lbv A f (s / 2) := by
      rw [← nx]
      exact (hvn _ (lbv_lt hi hv)).2.2.1
    rw [ed, if_neg (by omega), show (2 * lbv A f (rn_nx A (s / 2)) + 1) / 2 = lbv A f (rn_nx A (s / 2)) by omega, pv, ← eh]
    unfold pn_rt
    rw [show 2 * lbv A f (hdv A s) / 2 = lbv A f (hdv A s) by omega, show 2 * lbv A f (hdv A s) % 2 = 0 by omega, hb, ← m2]
    unfold phi wyv
    rw [show s % 2 = 1 by omega]
    cases smv A sg (hdv A s)
    · rw [if_pos (by decide), if_pos (by decide)]
      unfold dtS
      rw [if_pos (by omega), show 2 * mtf A (hdv A s) / 2 = mtf A (hdv A s) by omega]
    · rw [if_neg (by decide), if_neg (by decide)]
      unfold dtS
      rw [if_neg (by omega), show (2 * rn_pv A (mtf A (hdv A s)) + 1) / 2 = rn_pv A (mtf A (hdv A s)) by omega, hpv]
theorem faces_F (hi : isoN A sg f T) (hvn : vn T.1 T.2.2.1) (hp : pm1 T) : ∃ Lb : Nat → Nat, (∀ s, s < 2 * A.flatten.length → Lb (phi A sg s) = Lb s) ∧ ∀ F M, F ≤ 2 * A.flatten.length → (∀ s, s < 2 * A.flatten.length → ∃ f', f' < F ∧ M s = nI f') → wkF3 A sg Lb F M → F = (np_faces T.1 T.2.2.1 T.2.2.2).2 := by
  have hc := hi.2.2.1
  have hlen := hi.2.1
  have hok := wkF_ok hi.1
  obtain ⟨g, X, g1, g2, g3, g4⟩ := faces_ge (G := T.2.2.2) hvn hc
  refine ⟨fun s => g (dtS A f s), fun s hs => ?_, fun F M hF hM hW => ?_⟩
  · show g (dtS A f (phi A sg s)) = g (dtS A f s)
    rw [← dtS_ph hi hvn hp hs]
    exact g1 _ (dtS_lt hi hs)
  · -- the label of a side
    have hl : ∀ s, ∃ k, s < 2 * A.flatten.length → k < F ∧ M s = nI k := fun s => by
      by_cases h : s < 2 * A.flatten.length
      · obtain ⟨k, k1, k2⟩ := hM s h
        exact ⟨k, fun _ => ⟨k1, k2⟩⟩
      · exact ⟨0, fun h9 => absurd h9 h⟩
    let ln : Nat → Nat := fun s => Classical.choose (hl s)
    have ln1 : ∀ s, s < 2 * A.flatten.length → ln s < F ∧ M s = nI (ln s) := fun s hs => Classical.choose_spec (hl s) hs
    -- the side of a dart
    have hd : ∀ d, ∃ s, d < 4 * T.1 → s < 2 * A.flatten.length ∧ dtS A f s = d := fun d => by
      by_cases h : d < 4 * T.1
      · obtain ⟨s, s1, s2⟩ := dtS_sur hi h
        exact ⟨s, fun _ => ⟨s1, s2⟩⟩
      · exact ⟨0, fun h9 => absurd h9 h⟩
    let sd : Nat → Nat := fun d => Classical.choose (hd d)
    have sd1 : ∀ d, d < 4 * T.1 → sd d < 2 * A.flatten.length ∧ dtS A f (sd d) = d := fun d h => Classical.choose_spec (hd d) h
    have dinj : ∀ s t, s < 2 * A.flatten.length → t < 2 * A.flatten.length → dtS A f s = dtS A f t → s = t := by
      intro s t hs ht e
      unfold dtS at e
      by_cases e1 : s % 2 = 0
      · by_cases e2 : t % 2 = 0
        · rw [if_pos e1, if_pos e2] at e
          have := lbv_inj hi (show s / 2 < A.flatten.length by omega) (show t / 2 < A.flatten.length by omega) (by omega)
          omega
        · rw [if_pos e1, if_neg e2] at e
          omega
      · by_cases e2 : t % 2 = 0
        · rw [if_neg e1, if_pos e2] at e
          omega
        · rw [if_neg e1, if_neg e2] at e
          have h1 := lbv_inj hi (rn_nx_lt (A := A) (show s / 2 < A.flatten.length by omega)) (rn_nx_lt (A := A) (show t / 2 < A.flatten.length by omega)) (by omega)
          have h2 := congrArg (rn_pv A) h1
          rw [pv_nx (by omega), pv_nx (by omega)] at h2
          omega
    refine Nat.le_antisymm ?_ ?_
    · refine faces_le hvn hc ?_
      have hx : ∀ k, ∃ s, k < F → s < 2 * A.flatten.length ∧ M s = nI k := fun k => by
        by_cases h : k < F
        · obtain ⟨⟨s, s1, s2⟩, -⟩ := hW.2 k h
          exact ⟨s, fun _ => ⟨s1, s2⟩⟩
        · exact ⟨0, fun h9 => absurd h9 h⟩
      let sf : Nat → Nat := fun k => Classical.choose (hx k)
      have sf1 : ∀ k, k < F → sf k < 2 * A.flatten.length ∧ M (sf k) = nI k := fun k h => Classical.choose_spec (hx k) h
      refine ⟨fun d => ln (sd d), (List.range F).map (fun k => dtS A f (sf k)), fun d hd9 => ?_, fun x hx9 => ?_, ?_, by rw [List.length_map, List.length_range]; exact Nat.le_refl _⟩
      · obtain ⟨a1, a2⟩ := sd1 d hd9
        have e1 : pn_ph T.2.2.1 (stG T.2.2.2) d = dtS A f (phi A sg (sd d)) := by
          rw [← dtS_ph hi hvn hp a1, a2]
        have hphl := phi_lt (sg := sg) hok a1
        have e2 : sd (pn_ph T.2.2.1 (stG T.2.2.2) d) = phi A sg (sd d) := by
          have h9 := sd1 (pn_ph T.2.2.1 (stG T.2.2.2) d) (by rw [e1]; exact dtS_lt hi hphl)
          exact dinj _ _ h9.1 hphl (h9.2.trans e1)
        show ln (sd (pn_ph T.2.2.1 (stG T.2.2.2) d)) = ln (sd d)
        rw [e2]
        have h1 := ln1 _ a1
        have h2 := ln1 _ hphl
        have h3 := (hW.1 (ln (sd d)) h1.1 (sd d) a1).mp h1.2
        rw [h2.2] at h3
        exact nI_inj9 (by omega) (by omega) h3
      · obtain ⟨k, hk, rfl⟩ := List.mem_map.mp hx9
        exact dtS_lt hi (sf1 k (List.mem_range.mp hk)).1
      · unfold pm_dv
        rw [List.map_map]
        refine nodup_map List.nodup_range (fun a b ha hb e => ?_)
        have ha := List.mem_range.mp ha
        have hb := List.mem_range.mp hb
        have key : ∀ k, k < F → ln (sd (dtS A f (sf k))) = k := fun k hk => by
          obtain ⟨s1, s2⟩ := sf1 k hk
          have h9 := sd1 (dtS A f (sf k)) (dtS_lt hi s1)
          rw [dinj _ _ h9.1 s1 h9.2]
          have h1 := ln1 _ s1
          rw [s2] at h1
          exact (nI_inj9 (by omega) (by omega) h1.2).symm
        have e : ln (sd (dtS A f (sf a))) = ln (sd (dtS A f (sf b))) := e
        rw [key a ha, key b hb] at e
        exact e
    · have nd : (X.map (fun x => ln (sd x))).Nodup := nodup_map (pm_nd g3) (fun x y hx hy e => by
        obtain ⟨a1, a2⟩ := sd1 x (g2 x hx)
        obtain ⟨b1, b2⟩ := sd1 y (g2 y hy)
        have e : ln (sd x) = ln (sd y) := e
        have h1 := ln1 _ a1
        have h2 := ln1 _ b1
        rw [← e] at h2
        have h3 := (hW.2 _ h1.1).2 (sd x) (sd y) a1 b1 h1.2 h2.2
        have h3 : g (dtS A f (sd x)) = g (dtS A f (sd y)) := h3
        rw [a2, b2] at h3
        exact pm_inj g3 x y hx hy h3)
      have := nodup_le _ (List.range F) nd (fun a ha => by
        obtain ⟨x, hx, rfl⟩ := List.mem_map.mp ha
        exact List.mem_range.mpr (ln1 _ (sd1 x (g2 x hx)).1).1)
      rw [List.length_map, List.length_range] at this
      omega
end XP0
theorem xr_plane {n : Nat} {z : ow_MS} {A : rn_L} {sg : Nat → Bool} {f : Nat → Nat} {T : ow_NT} (hn : mw_net n) (hcn : A.length ≤ 39) (hi : isoN A sg f T) (hvn : vn T.1 T.2.2.1) (hp1 : pm1 T) (hL : rn_lk z n A) (hG : rn_sg z n A.flatten sg) : Te (fun K => qe_X12_isPlane K n z) (fun r => r.1 = (if nt_plane T = true then 1 else 0) ∧ fr (fun g => n + 12 ≤ g ∧ g ≤ n + 16) z r.2 ∧ rn_lk r.2 n A) := by
  have hd := wkF_ok hi.1
  have hc := hi.2.2.1
  have hV := hi.2.1
  have hlen : A.flatten.length ≤ 40 := by omega
  obtain ⟨Lb, hLb, hFx⟩ := faces_F hi hvn hp1
  let Q : Int32 × ow_MS → Prop := fun r => r.1 = (if nt_plane T = true then 1 else 0) ∧ fr (fun g => n + 12 ≤ g ∧ g ≤ n + 16) z r.2 ∧ rn_lk r.2 n A
  refine e_X12_isPlane ?_
  refine u_X12_isPlane_0 ?_; unfold qm_X12_isPlane_0
  refine w_cs0 (tn_split hn hlen hcn hd hL) (fun z1 ⟨f1, P, g1⟩ => w_cs0 (xr_walk hn hlen hd (fr_lk f1 (fun g hg => by rcases hg with hg | hg <;> omega) hL) (fun p hp => by rw [(f1 (n + 6) (by intro h9; rcases h9 with h9 | h9 <;> omega)).2.1]; exact hG p hp) hLb) (fun z2 ⟨f2, F, g2, g3⟩ => ?_))
  have hL1 := fr_lk f1 (fun g hg => by rcases hg with hg | hg <;> omega) hL
  have hL2 := fr_lk f2 (fun g hg => by rcases hg with hg | hg | hg <;> omega) hL1
  obtain ⟨m, hm1, hm2⟩ := mk_of hcn g1
  have hPl := g1.2.1
  have e12 := (f2 (n + 12) (by omega)).2.1
  have hM2 : ∀ c, c < A.length → z2.2.1 (n + 12) c = nI (m c) := fun c hc9 => by rw [e12]; exact hm2 c hc9
  have hP2 : z2.1 (n + 13) = nI P := by rw [(f2 (n + 13) (by omega)).1]; exact g1.1
  have hF2 : z2.1 (n + 16) = nI F := g2.1
  have eF := hFx F _ g2.2.1 g2.2.2.1 g3
  have hF80 : F ≤ 80 := by have := g2.2.1; omega
  have ec := parts_cnt0 hi hvn hm1
  rw [← cntB_fl] at ec
  have hcl : ∀ p, p ≤ P → cntB (fun p => !(pvl A m p A.flatten.length).isEmpty) p ≤ 39 := fun p hp => by
    have := cntB_le (fun p => !(pvl A m p A.flatten.length).isEmpty) p
    omega
  have post : fr (fun g => n + 12 ≤ g ∧ g ≤ n + 16) z z2 := fr_tr (fr_mono (fun g hg => by rcases hg with hg | hg <;> omega) f1) (fr_mono (fun g hg => by rcases hg with hg | hg | hg <;> omega) f2)
  have inn : ∀ (p x1 : Nat), p < P → Tt (fun K k => q_X12_isPlane K k 1 (nI (x1 + if (pvl A m p A.flatten.length).isEmpty = true then 0 else 2)) (nI (p + 1)) 0 0 n 0 0 z2) Q → ∀ (d c : Nat) (b : Bool), c + d = A.length → (b = true ↔ ∃ c', c' < c ∧ m c' = p ∧ rn_b A c' ≠ rn_b A (c' + 1)) → Tt (fun K k => q_X12_isPlane K k 2 (nI x1) (nI p) (bZ b) (nI c) n 0 0 z2) Q := by
    intro p x1 hpP hout d
    induction d with
    | zero =>
      intro c b hc hb
      have hce : c = A.length := by omega
      have hbb : b = !(pvl A m p A.flatten.length).isEmpty := by
        cases hbe : b with
        | true =>
          obtain ⟨c', c1, c2, c3⟩ := hb.mp hbe
          have hs := rn_b_mono A c'
          have hle := rn_b_le A (c' + 1)
          have hv : rn_b A c' < A.flatten.length := by omega
          have hcc : rn_c A (rn_b A c') = c' := rn_c_of A _ _ (Nat.le_refl _) (by omega)
          have : rn_b A c' ∈ pvl A m p A.flatten.length := pvl_m.mpr ⟨hv, by rw [hcc]; exact c2⟩
          cases h9 : pvl A m p A.flatten.length with
          | nil => rw [h9] at this; cases this
          | cons x L => rfl
        | false =>
          cases h9 : pvl A m p A.flatten.length with
          | nil => rfl
          | cons x L =>
            exfalso
            have hx : x ∈ pvl A m p A.flatten.length := by rw [h9]; exact List.mem_cons_self
            obtain ⟨x1, x2⟩ := pvl_m.mp hx
            obtain ⟨q1, q2, q3⟩ := rn_c_in A x x1
            rw [hb.mpr ⟨rn_c A x, by omega, x2, by omega⟩] at hbe
            cases hbe
      refine u_X12_isPlane_2 ?_; unfold qm_X12_isPlane_2
      refine w_rdF hL2.1.2.1 (w_leT (by omega) (by omega) ?_)
      cases he : (pvl A m p A.flatten.length).isEmpty with
      | true =>
        rw [he] at hbb hout
        have hbb : b = false := hbb
        rw [hbb]
        refine w_ifT rfl ?_
        refine u_X12_isPlane_5 ?_; unfold qm_X12_isPlane_5
        rw [nI_1]
        have hout : Tt (fun K k => q_X12_isPlane K k 1 (nI (x1 + 0)) (nI (p + 1)) 0 0 n 0 0 z2) Q := hout
        rw [← nI_add] at hout
        exact hout
      | false =>
        rw [he] at hbb hout
        have hbb : b = true := hbb
        rw [hbb]
        refine w_ifF (by decide) ?_
        refine u_X12_isPlane_5 ?_; unfold qm_X12_isPlane_5
        rw [nI_1]
        have hout : Tt (fun K k => q_X12_isPlane K k 1 (nI (x1 + 2)) (nI (p + 1)) 0 0 n 0 0 z2) Q := hout
        rw [← nI_add] at hout
        exact hout
    | succ d ih =>
      intro c b hc hb
      have hcA : c < A.length := by omega
      have hmc := hm1.1 c hcA
      have same : ¬ (m c = p ∧ rn_b A c ≠ rn_b A (c + 1)) → (b = true ↔ ∃ c', c' < c + 1 ∧ m c' = p ∧ rn_b A c' ≠ rn_b A (c' + 1)) := fun hno => by
        rw [hb]
        constructor
        · rintro ⟨c', c1, c2⟩
          exact ⟨c', by omega, c2⟩
        · rintro ⟨c', c1, c2⟩
          by_cases ecc : c' = c
          · rw [ecc] at c2
            exact absurd c2 hno
          · exact ⟨c', by omega, c2⟩
      have or0 : bZ b ||| 0 = bZ b := by cases b <;> decide
      have or1 : bZ b ||| 1 = bZ true := by cases b <;> decide
      have c3 : ¬ (m c = p ∧ rn_b A c ≠ rn_b A (c + 1)) → Tt (fun K k => q_X12_isPlane K k 3 (nI x1) (nI p) (bZ b) (nI c) n (bZ b) 0 z2) Q := fun hno => by
        refine u_X12_isPlane_3 ?_; unfold qm_X12_isPlane_3
        refine u_X12_isPlane_4 ?_; unfold qm_X12_isPlane_4
        rw [nI_1, or0]
        exact ih (c + 1) b (by omega) (same hno)
      refine u_X12_isPlane_2 ?_; unfold qm_X12_isPlane_2
      refine w_rdF hL2.1.2.1 (w_leF (by omega) (by omega) (w_rdI (pl12 hn) rfl (by omega) (hM2 c hcA) (w_eqN (by omega) (by omega) (fun hmp => w_cs1 (tn_circle hn hlen hcn hcA hL2.1) (fun a z9 h9 => ?_)) (fun hmp => c3 (fun h9 => hmp h9.1)))))
      cases h9
      by_cases hcir : rn_b A c = rn_b A (c + 1)
      · rw [if_pos hcir]
        exact w_ifF (by decide) (c3 (fun h9 => h9.2 hcir))
      · rw [if_neg hcir]
        refine w_ifT rfl ?_
        refine u_X12_isPlane_4 ?_; unfold qm_X12_isPlane_4
        rw [nI_1, or1]
        exact ih (c + 1) true (by omega) ⟨fun _ => ⟨c, by omega, hmp, hcir⟩, fun _ => rfl⟩
  have out : ∀ (d p : Nat), p + d = P → Tt (fun K k => q_X12_isPlane K k 1 (nI (T.1 + 2 * cntB (fun p => !(pvl A m p A.flatten.length).isEmpty) p)) (nI p) 0 0 n 0 0 z2) Q := by
    intro d
    induction d with
    | zero =>
      intro p hp
      have hpe : p = P := by omega
      have hcp := hcl P (Nat.le_refl _)
      rw [hpe]
      have e9 : nt_plane T = decide (F = T.1 + 2 * cntB (fun p => !(pvl A m p A.flatten.length).isEmpty) P) := by
        unfold nt_plane
        rw [← eF, ec]
      refine u_X12_isPlane_1 ?_; unfold qm_X12_isPlane_1
      refine w_rdF hP2 (w_leT (by omega) (by omega) (w_rdF hF2 (w_eqN (by omega) (by omega) (fun h9 => w_okZ (Or.inr rfl) (w_some ⟨?_, post, hL2⟩)) (fun h9 => w_okZ (Or.inl rfl) (w_some ⟨?_, post, hL2⟩)))))
      · rw [e9, decide_eq_true h9]
        rfl
      · rw [e9, decide_eq_false h9]
        rfl
    | succ d ih =>
      intro p hp
      have h1 := ih (p + 1) (by omega)
      refine u_X12_isPlane_1 ?_; unfold qm_X12_isPlane_1
      refine w_rdF hP2 (w_leF (by omega) (by omega) (inn p _ (by omega) ?_ A.length 0 false (by omega) ⟨fun h9 => (by cases h9), fun ⟨c', c1, _⟩ => by omega⟩))
      have e9 : T.1 + 2 * cntB (fun p => !(pvl A m p A.flatten.length).isEmpty) p + (if (pvl A m p A.flatten.length).isEmpty = true then 0 else 2) = T.1 + 2 * cntB (fun p => !(pvl A m p A.flatten.length).isEmpty) (p + 1) := by
        show _ = T.1 + 2 * (cntB (fun p => !(pvl A m p A.flatten.length).isEmpty) p + (if (!(pvl A m p A.flatten.length).isEmpty) = true then 1 else 0))
        cases (pvl A m p A.flatten.length).isEmpty
        · show _ + 2 = T.1 + 2 * (_ + 1)
          omega
        · show _ + 0 = T.1 + 2 * (_ + 0)
          omega
      rw [e9]
      exact h1
  refine w_rdF hL2.V (w_nzI (by decide) ?_)
  rw [show nI A.flatten.length / 2 = nI T.1 from by rw [show nI A.flatten.length / 2 = nI (A.flatten.length / 2) from pk_div (d := 2) (by omega) (by omega) (by omega), show A.flatten.length / 2 = T.1 by omega]]
  exact out P 0 (by omega)
