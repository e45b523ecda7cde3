/-! the class: the work row is reduced -/
theorem rI_fr {P : Nat → Prop} {z z1 : ow_MS} {w u C : Nat} (hf : fr P z z1) (hP : ¬ P 43012 ∧ ¬ P 43013 ∧ ¬ P 43015 ∧ ¬ P 43017) (h : rI z w u C) : rI z1 w u C := by
  unfold rI
  rw [(hf _ hP.2.2.2).1, (hf _ hP.1).2.1, (hf _ hP.2.1).2.1, (hf _ hP.2.2.1).2.1]
  exact h
section RD
variable {vl : Nat → Nat} {y : ow_MS} {W C : Nat}
theorem u_X1_reduce_1 {x1 : Int32} {x2 : Int32} {x3 : Int32} {x4 : Int32} {r0 : Nat} {vl : Nat → Nat} {z : ow_MS} {Q : (Int32 × (Nat → Nat) × ow_MS) → Prop} (H : Tt (fun K k => dm_X1_reduce_1 K (d_X1_reduce K k) x1 x2 x3 x4 r0 vl z) (gQ vl Q)) : Tt (fun K k => d_X1_reduce K k 1 x1 x2 x3 x4 r0 vl z) (gQ vl Q) := w_un (fun _ _ => rfl) (w_chV (Nat.le_refl _) H)
theorem u_X1_reduce_3 {x1 : Int32} {x2 : Int32} {x3 : Int32} {x4 : Int32} {r0 : Nat} {vl : Nat → Nat} {z : ow_MS} {Q : (Int32 × (Nat → Nat) × ow_MS) → Prop} (H : Tt (fun K k => dm_X1_reduce_3 K (d_X1_reduce K k) x1 x2 x3 x4 r0 vl z) (gQ vl Q)) : Tt (fun K k => d_X1_reduce K k 3 x1 x2 x3 x4 r0 vl z) (gQ vl Q) := w_un (fun _ _ => rfl) (w_chV (Nat.le_refl _) H)
theorem u_X1_reduce_2 {x1 : Int32} {x2 : Int32} {x3 : Int32} {x4 : Int32} {r0 : Nat} {vl : Nat → Nat} {z : ow_MS} {Q : (Int32 × (Nat → Nat) × ow_MS) → Prop} (H : Tt (fun K k => dm_X1_reduce_2 K (d_X1_reduce K k) x1 x2 x3 x4 r0 vl z) (gQ vl Q)) : Tt (fun K k => d_X1_reduce K k 2 x1 x2 x3 x4 r0 vl z) (gQ vl Q) := w_un (fun _ _ => rfl) (w_chV (Nat.le_refl _) H)
theorem e_X1_reduce {r0 : Nat} {x1 : Int32} {vl : Nat → Nat} {z : ow_MS} {Q : (Int32 × (Nat → Nat) × ow_MS) → Prop} (H : Tt (fun K k => d_X1_reduce K k 0 x1 0 0 0 r0 vl z) Q) : Te (fun K => de_X1_reduce K r0 x1 vl z) Q := w_te H
theorem u_X1_reduce_0 {x1 : Int32} {x2 : Int32} {x3 : Int32} {x4 : Int32} {r0 : Nat} {vl : Nat → Nat} {z : ow_MS} {Q : (Int32 × (Nat → Nat) × ow_MS) → Prop} (H : Tt (fun K k => dm_X1_reduce_0 K (d_X1_reduce K k) x1 x2 x3 x4 r0 vl z) (gQ vl Q)) : Tt (fun K k => d_X1_reduce K k 0 x1 x2 x3 x4 r0 vl z) (gQ vl Q) := w_un (fun _ _ => rfl) (w_chV (Nat.le_refl _) H)
theorem tc_reduce {w u p : Nat} (hv : vI vl W C) (hw : w ≤ 1140) (hwW : w ≤ W) (hI : rI y w u C) (h10 : y.1 43010 = nI p) (hp1 : 2 ≤ p) (hp2 : p ≤ 997) : Te (fun K => de_X1_reduce K 43000 (nI w) vl y) (gQ vl (fun r => fr kpG y r.2.2 ∧ ∃ C' u', vI r.2.1 W C' ∧ rI r.2.2 w u' C')) := by
  let Q : Int32 × (Nat → Nat) × ow_MS → Prop := fun r => fr kpG y r.2.2 ∧ ∃ C' u', vI r.2.1 W C' ∧ rI r.2.2 w u' C'
  have hnz : nI p ≠ 0 := fun h9 => by
    have := (nI_eq (a := p) (b := 0) (by omega) (by omega)).mp h9
    omega
  have hv0 := hv
  obtain ⟨h1, h2, h3, h4, h5, h6, h7, h8, h9, h0⟩ := hv
  have huC : u ≤ C := hI.2.2.1
  have k11 : ∀ g, g = 43011 → kpG g := fun g hg => Or.inl hg
  have c1 : ∀ (d c : Nat) (z : ow_MS), c + d = w → fr (fun g => g = 43011) y z → Tt (fun K k => d_X1_reduce K k 1 (nI w) (nI c) 0 0 43000 vl z) (gQ vl Q) := by
    intro d
    induction d with
    | zero =>
      intro c z hc hz
      refine u_X1_reduce_1 ?_; unfold dm_X1_reduce_1
      exact w_leT (a := w) (b := c) (by omega) (by omega) (w_some ⟨Nat.le_refl _, fr_mono k11 hz, C, u, hv0, rI_fr hz (by omega) hI⟩)
    | succ d ih =>
      intro c z hc hz
      have c3 : ∀ (x3 : Int32) (z1 : ow_MS), fr (fun g => g = 43011) y z1 → Tt (fun K k => d_X1_reduce K k 3 (nI w) (nI c) x3 0 43000 vl z1) (gQ vl Q) := by
        intro x3 z1 hz1
        refine u_X1_reduce_3 ?_; unfold dm_X1_reduce_3
        rw [nI_1]
        exact ih (c + 1) z1 (by omega) hz1
      have hIz := rI_fr hz (by omega) hI
      refine u_X1_reduce_1 ?_; unfold dm_X1_reduce_1
      refine w_leF (a := w) (b := c) (by omega) (by omega) (w_crI (ch_43011.trans h1) rfl (by omega) rfl (w_if (fun _ => c3 _ z hz) (fun _ => ?_)))
      rcases hIz.2.2.2.1 c (by omega) with hn | ⟨a, b, q1, q2, q3, q4⟩
      · refine w_crI (ch_43012.trans h2) rfl (by omega) hn (w_ifT rfl ?_)
        refine w_dc1 (tc_keepRow (f := c) hv0 hw hwW (by omega) hIz hn (((hz 43010 (by omega)).1).trans h10) hp1 hp2) ?_
        rintro x v z1 ⟨r1, r2, r3⟩
        exact w_chV r1 (w_some ⟨Nat.le_refl _, fr_tr (fr_mono k11 hz) r2, r3⟩)
      · have c2 : ∀ (d2 i : Nat) (x3 : Int32) (z1 : ow_MS), b ≤ i + d2 → i < 2 ^ 31 → fr (fun g => g = 43011) y z1 → Tt (fun K k => d_X1_reduce K k 2 (nI w) (nI c) x3 (nI i) 43000 vl z1) (gQ vl Q) := by
          intro d2
          induction d2 with
          | zero =>
            intro i x3 z1 hi hi2 hz1
            have e13 : z1.2.1 43013 c = nI b := by
              rw [(hz1 43013 (by omega)).2.1, ← (hz 43013 (by omega)).2.1]
              exact q3
            refine u_X1_reduce_2 ?_; unfold dm_X1_reduce_2
            exact w_crI (ch_43013.trans h3) rfl (by omega) e13 (w_leT (a := b) (b := i) (by omega) (by omega) (c3 _ z1 hz1))
          | succ d2 ih2 =>
            intro i x3 z1 hi hi2 hz1
            have e13 : z1.2.1 43013 c = nI b := by
              rw [(hz1 43013 (by omega)).2.1, ← (hz 43013 (by omega)).2.1]
              exact q3
            refine u_X1_reduce_2 ?_; unfold dm_X1_reduce_2
            refine w_crI (ch_43013.trans h3) rfl (by omega) e13 (w_le (a := b) (b := i) (by omega) (by omega) (fun _ => c3 _ z1 hz1) (fun hlt => ?_))
            obtain ⟨j, j1, j2⟩ := (rI_fr hz1 (by omega) hI).2.2.2.2 i (by omega)
            have ep : z1.1 43010 = nI p := ((hz1 43010 (by omega)).1).trans h10
            refine w_crI (ch_43015.trans h5) rfl (by omega) j1 (w_crI (ch_43015.trans h5) rfl (by omega) j1 (w_crI (ch_43011.trans h1) rfl (by omega) rfl (w_rdF ep (w_crI (ch_43016.trans h6) rfl (by omega) rfl (w_rdF ep (w_nzI hnz (w_ctI (ch_43011.trans h1) rfl (by omega) ?_)))))))
            rw [nI_1]
            exact ih2 (i + 1) _ _ (by omega) (by omega) (fr_I2 hz1 rfl)
        exact w_crI (ch_43012.trans h2) rfl (by omega) q1 (w_ifF (rn_neg1 q2) (w_crI (ch_43012.trans h2) rfl (by omega) q1 (c2 b a _ z (by omega) q2 hz)))
  refine e_X1_reduce ?_
  refine u_X1_reduce_0 ?_; unfold dm_X1_reduce_0
  exact c1 w 0 y (by omega) fr_rf
theorem u_X1_eliminate_1 {x1 : Int32} {x2 : Int32} {x3 : Int32} {x4 : Int32} {x5 : Int32} {r0 : Nat} {vl : Nat → Nat} {z : ow_MS} {Q : (Int32 × (Nat → Nat) × ow_MS) → Prop} (H : Tt (fun K k => dm_X1_eliminate_1 K (d_X1_eliminate K k) x1 x2 x3 x4 x5 r0 vl z) (gQ vl Q)) : Tt (fun K k => d_X1_eliminate K k 1 x1 x2 x3 x4 x5 r0 vl z) (gQ vl Q) := w_un (fun _ _ => rfl) (w_chV (Nat.le_refl _) H)
theorem u_X1_eliminate_4 {x1 : Int32} {x2 : Int32} {x3 : Int32} {x4 : Int32} {x5 : Int32} {r0 : Nat} {vl : Nat → Nat} {z : ow_MS} {Q : (Int32 × (Nat → Nat) × ow_MS) → Prop} (H : Tt (fun K k => dm_X1_eliminate_4 K (d_X1_eliminate K k) x1 x2 x3 x4 x5 r0 vl z) (gQ vl Q)) : Tt (fun K k => d_X1_eliminate K k 4 x1 x2 x3 x4 x5 r0 vl z) (gQ vl Q) := w_un (fun _ _ => rfl) (w_chV (Nat.le_refl _) H)
theorem u_X1_eliminate_2 {x1 : Int32} {x2 : Int32} {x3 : Int32} {x4 : Int32} {x5 : Int32} {r0 : Nat} {vl : Nat → Nat} {z : ow_MS} {Q : (Int32 × (Nat → Nat) × ow_MS) → Prop} (H : Tt (fun K k => dm_X1_eliminate_2 K (d_X1_eliminate K k) x1 x2 x3 x4 x5 r0 vl z) (gQ vl Q)) : Tt (fun K k => d_X1_eliminate K k 2 x1 x2 x3 x4 x5 r0 vl z) (gQ vl Q) := w_un (fun _ _ => rfl) (w_chV (Nat.le_refl _) H)
theorem u_X1_eliminate_3 {x1 : Int32} {x2 : Int32} {x3 : Int32} {x4 : Int32} {x5 : Int32} {r0 : Nat} {vl : Nat → Nat} {z : ow_MS} {Q : (Int32 × (Nat → Nat) × ow_MS) → Prop} (H : Tt (fun K k => dm_X1_eliminate_3 K (d_X1_eliminate K k) x1 x2 x3 x4 x5 r0 vl z) (gQ vl Q)) : Tt (fun K k => d_X1_eliminate K k 3 x1 x2 x3 x4 x5 r0 vl z) (gQ vl Q) := w_un (fun _ _ => rfl) (w_chV (Nat.le_refl _) H)
theorem e_X1_eliminate {r0 : Nat} {x1 : Int32} {vl : Nat → Nat} {z : ow_MS} {Q : (Int32 × (Nat → Nat) × ow_MS) → Prop} (H : Tt (fun K k => d_X1_eliminate K k 0 x1 0 0 0 0 r0 vl z) Q) : Te (fun K => de_X1_eliminate K r0 x1 vl z) Q := w_te H
theorem u_X1_eliminate_0 {x1 : Int32} {x2 : Int32} {x3 : Int32} {x4 : Int32} {x5 : Int32} {r0 : Nat} {vl : Nat → Nat} {z : ow_MS} {Q : (Int32 × (Nat → Nat) × ow_MS) → Prop} (H : Tt (fun K k => dm_X1_eliminate_0 K (d_X1_eliminate K k) x1 x2 x3 x4 x5 r0 vl z) (gQ vl Q)) : Tt (fun K k => d_X1_eliminate K k 0 x1 x2 x3 x4 x5 r0 vl z) (gQ vl Q) := w_un (fun _ _ => rfl) (w_chV (Nat.le_refl _) H)
theorem tc_eliminate {o p c ci : Nat} {S : ow_NP} {G : Nat → Int32} {Ls : Nat → Nat → Nat} {ns : Nat → Nat} {dg : Int} {wf : Nat → Bool} (hv : vI vl W C) (hy : cAt y 44000 (c, ci, S, G)) (hvn : vn c S) (hc : c ≤ 8) (hwf : gaO c S wf) (hL : LpY y S G c Ls ns) (hly : LyY y c ns dg) (htb : tbP y) (ho : o < c + 1) (h10 : y.1 43010 = nI p) (hp1 : 2 ≤ p) (hp2 : p ≤ 997) (hsz : ∀ h, smH (bkF ns dg) h 0 (2 ^ c) ≤ 1140 ∧ (h < 10 → smH (bkF ns dg) h 0 (2 ^ c) ≤ W)) : Te (fun K => de_X1_eliminate K 43000 (nI o) vl y) (gQ vl (fun r => fr kpG y r.2.2 ∧ ∃ C', vI r.2.1 W C')) := by
  let Q : Int32 × (Nat → Nat) × ow_MS → Prop := fun r => fr kpG y r.2.2 ∧ ∃ C', vI r.2.1 W C'
  generalize hw : smH (bkF ns dg) (o + 1) 0 (2 ^ c) = w
  have hw1 : w ≤ 1140 := by rw [← hw]; exact (hsz _).1
  have hwW : w ≤ W := by rw [← hw]; exact (hsz _).2 (by omega)
  have h256 : 2 ^ c ≤ 256 := two_mono (b := 8) hc
  have c1 : ∀ (d s : Nat) (x3 : Int32) (v : Nat → Nat) (z : ow_MS) (C' u : Nat), s + d = 2 ^ c → vI v W C' → fr kpG y z → rI z w u C' → Tt (fun K k => d_X1_eliminate K k 1 (nI o) (nI w) x3 (nI s) 0 43000 v z) (gQ v Q) := by
    intro d
    induction d with
    | zero =>
      intro s x3 v z C' u hs hv' hz hI
      have hz4 : cAt z 44000 (c, ci, S, G) := cAt_fr hz (fun g hg h9 => by unfold cP at hg; unfold kpG at h9; omega) hy
      refine u_X1_eliminate_1 ?_; unfold dm_X1_eliminate_1
      refine w_rdF hz4.1 ?_
      rw [shl1 (by omega)]
      exact w_leT (a := 2 ^ c) (b := s) (by omega) (by omega) (w_some ⟨Nat.le_refl _, hz, C', hv'⟩)
    | succ d ih =>
      intro s x3 v z C' u hs hv' hz hI
      have hz4 : cAt z 44000 (c, ci, S, G) := cAt_fr hz (fun g hg h9 => by unfold cP at hg; unfold kpG at h9; omega) hy
      have hsc : s < 2 ^ c := by omega
      have hns := (hL s hsc).2
      have two9 : 2 ^ ns s ≤ 512 := two_mono (b := 9) hns
      have c4 : ∀ (x3 : Int32) (v : Nat → Nat) (z : ow_MS) (C' u : Nat), vI v W C' → fr kpG y z → rI z w u C' → Tt (fun K k => d_X1_eliminate K k 4 (nI o) (nI w) x3 (nI s) 0 43000 v z) (gQ v Q) := by
        intro x3 v z C' u hv' hz hI
        refine u_X1_eliminate_4 ?_; unfold dm_X1_eliminate_4
        rw [nI_1]
        exact ih (s + 1) x3 v z C' u (by omega) hv' hz hI
      have fits : ∀ kp, kpF (ns s) (pc s) dg = some kp → pc s = o → ∀ (d2 m : Nat) (x3 : Int32) (v : Nat → Nat) (z : ow_MS) (C' u : Nat), m + d2 = 2 ^ ns s → vI v W C' → fr kpG y z → rI z w u C' → Tt (fun K k => d_X1_eliminate K k 2 (nI o) (nI w) x3 (nI s) (nI m) 43000 v z) (gQ v Q) := by
        intro kp hkp hpo d2
        induction d2 with
        | zero =>
          intro m x3 v z C' u hm hv' hz hI
          have e3 : z.2.1 43003 s = nI (ns s) := by
            rw [(hz 43003 (by unfold kpG; omega)).2.1]
            exact (hL s hsc).1.2.1
          refine u_X1_eliminate_2 ?_; unfold dm_X1_eliminate_2
          refine w_crI ch_43003 rfl (by omega) e3 ?_
          rw [shl1 (by omega)]
          exact w_leT (a := 2 ^ ns s) (b := m) (by omega) (by omega) (c4 _ v z C' u hv' hz hI)
        | succ d2 ih2 =>
          intro m x3 v z C' u hm hv' hz hI
          have e3 : z.2.1 43003 s = nI (ns s) := by
            rw [(hz 43003 (by unfold kpG; omega)).2.1]
            exact (hL s hsc).1.2.1
          have e7 : z.2.1 43007 s = nI kp := by
            rw [(hz 43007 (by unfold kpG; omega)).2.1, (hly.1 s hsc).1, hkp]
            rfl
          have e8 : z.2.1 43008 s = nI (smH (bkF ns dg) (pc s) 0 s) := by
            rw [(hz 43008 (by unfold kpG; omega)).2.1]
            exact (hly.1 s hsc).2
          have e5 : z.2.1 43005 m = nI (cpN (pc m) m) := by
            rw [(hz 43005 (by unfold kpG; omega)).2.1]
            exact htb m (by omega)
          have c3 : ∀ (x3 : Int32) (v : Nat → Nat) (z : ow_MS) (C' u : Nat), vI v W C' → fr kpG y z → rI z w u C' → Tt (fun K k => d_X1_eliminate K k 3 (nI o) (nI w) x3 (nI s) (nI m) 43000 v z) (gQ v Q) := by
            intro x3 v z C' u hv' hz hI
            refine u_X1_eliminate_3 ?_; unfold dm_X1_eliminate_3
            rw [nI_1]
            exact ih2 (m + 1) x3 v z C' u (by omega) hv' hz hI
          have hkp9 : kp ≤ ns s := kpF_le hkp
          have hpm : pc m ≤ ns s := pc_le (by omega)
          refine u_X1_eliminate_2 ?_; unfold dm_X1_eliminate_2
          refine w_crI ch_43003 rfl (by omega) e3 ?_
          rw [shl1 (by omega), bc_pc (show m < 4096 by omega)]
          refine w_leF (a := 2 ^ ns s) (b := m) (by omega) (by omega) (w_crI ch_43007 rfl (by omega) e7 (w_eqN (by omega) (by omega) (fun hpc => ?_) (fun _ => c3 _ v z C' u hv' hz hI)))
          have hk2 : kpF (ns s) (pc s) dg = some (pc m) := by rw [hkp, hpc]
          have hix := ix_lt hsc hns (show m < 2 ^ ns s by omega) hk2
          rw [hpo] at hix
          have hoW := (hsz o).2 (by omega)
          have ho1 := (hsz o).1
          have hv2 := hv'
          obtain ⟨h1, h2, h3, h4, h5, h6, h7, h8, h9, h0⟩ := hv'
          refine w_crI ch_43008 rfl (by omega) e8 (w_crI ch_43005 rfl (by omega) e5 ?_)
          rw [nI_add]
          refine w_crI (ch_43014.trans h4) rfl (show smH (bkF ns dg) (pc s) 0 s + cpN (pc m) m < W by rw [hpo]; omega) rfl (w_if (fun _ => ?_) (fun _ => c3 _ v z C' u hv2 hz hI))
          have ep : z.1 43010 = nI p := ((hz 43010 (by unfold kpG; omega)).1).trans h10
          have hz4 : cAt z 44000 (c, ci, S, G) := cAt_fr hz (fun g hg h9 => by unfold cP at hg; unfold kpG at h9; omega) hy
          refine w_cs0 (tc_writeImage (vl := v) (W := W) (p := p) (dg := dg) hz4 hvn hc hwf (LpY_fr hz (by unfold kpG; omega) hL) (LyY_fr hz (by unfold kpG; omega) hly) (tbP_fr hz (by unfold kpG; omega) htb) hsc (show m < 2 ^ ns s by omega) hk2 h1 (by omega) (by rw [hpo, hw]; exact hwW) ep hp1 hp2) (fun z1 hz1 => ?_)
          have hf1 : fr kpG y z1 := fr_tr hz (fr_mono (fun g hg => Or.inl hg) hz1)
          refine w_dc1 (tc_reduce hv2 hw1 hwW (rI_fr hz1 (by omega) hI) (((hf1 43010 (by unfold kpG; omega)).1).trans h10) hp1 hp2) ?_
          rintro x v2 z2 ⟨r1, r2, C2, u2, r3, r4⟩
          exact w_chV r1 (c3 _ v2 z2 C2 u2 r3 (fr_tr hf1 r2) r4)
      have e7 : z.2.1 43007 s = oM (kpF (ns s) (pc s) dg) := by
        rw [(hz 43007 (by unfold kpG; omega)).2.1]
        exact (hly.1 s hsc).1
      have hps := pc_le (c := c) hsc
      refine u_X1_eliminate_1 ?_; unfold dm_X1_eliminate_1
      refine w_rdF hz4.1 ?_
      rw [shl1 (by omega), bc_pc (show s < 4096 by omega)]
      refine w_leF (a := 2 ^ c) (b := s) (by omega) (by omega) (w_eqN (by omega) (by omega) (fun hpo => w_crI ch_43007 rfl (by omega) e7 ?_) (fun _ => c4 _ v z C' u hv' hz hI))
      cases hkp : kpF (ns s) (pc s) dg with
      | none => exact w_ifT rfl (c4 _ v z C' u hv' hz hI)
      | some kp =>
        have hkp9 : kp ≤ ns s := kpF_le hkp
        exact w_ifF (rn_neg1 (by omega)) (fits kp hkp hpo (2 ^ ns s) 0 x3 v z C' u (by omega) hv' hz hI)
  have hv0 := hv
  obtain ⟨h1, h2, h3, h4, h5, h6, h7, h8, h9, h0⟩ := hv
  refine e_X1_eliminate ?_
  refine u_X1_eliminate_0 ?_; unfold dm_X1_eliminate_0
  rw [nI_1]
  refine w_crI ch_43009 rfl (by omega) ((hly.2 (o + 1) (by omega)).trans (by rw [hw])) (w_wrF ?_)
  refine w_cs0 (tc_fill (a := 0) (b := w) (ch_43012.trans h2) (by omega) hwW (by omega)) ?_
  rintro z1 ⟨f1, f2⟩
  refine w_cs0 (tc_fill (a := 0) (b := w) (ch_43011.trans h1) (by omega) hwW (by omega)) ?_
  rintro z2 ⟨f3, f4⟩
  have g12 : ∀ k, k < w → z2.2.1 43012 k = -1 := fun k hk => by
    rw [(f4 43012 (by omega)).2.1, f1 k, if_pos (by omega)]
  refine c1 (2 ^ c) 0 0 vl z2 C 0 (by omega) hv0 (fr_tr (fr_tr (fr_F (by unfold kpG; omega)) (fr_mono (fun g hg => by unfold kpG; omega) f2)) (fr_mono (fun g hg => by unfold kpG; omega) f4)) ⟨?_, Nat.zero_le _, Nat.zero_le _, fun k hk => Or.inl (g12 k hk), fun i hi => absurd hi (Nat.not_lt_zero _)⟩
  rw [(f4 43017 (by omega)).1, (f2 43017 (by omega)).1]
  exact po_usF_at
end RD
