-- CHAIN: the class's eliminate, exactly
section XCJ5
variable {vl : Nat → Nat} {y : ow_MS} {W C : Nat}
theorem te_eliminate {o p c ci : Nat} {S : ow_NP} {G : Nat → Int32} {Ls : Nat → Nat → Nat} {ns : Nat → Nat} {dg : Int} {wf : Nat → Bool} (hv : vI vl W C) (hy : cAt y 44000 (c, ci, S, G)) (hvn : vn c S) (hc : c ≤ 8) (hwf : gaO c S wf) (hL : LpY y S G c Ls ns) (hly : LyY y c ns dg) (htb : tbP y) (ho : o < c + 1) (h10 : y.1 43010 = nI p) (hp : prT p) (hp2 : p ≤ 997) (hsz : ∀ h, smH (bkF ns dg) h 0 (2 ^ c) ≤ 1140 ∧ (h < 10 → smH (bkF ns dg) h 0 (2 ^ c) ≤ W)) {rel : (Nat → Bool) → Nat → Nat → Prop} (hC : cu9 c 2000 (fun g => g < 2 * c) (fun x => 2 * x) (fun x => S.2 (2 * x)) (fun x => S.2 (2 * x)) rel) (hLT : LT9 c (fun g => g < 2 * c) rel Ls ns) : Te (fun K => de_X1_eliminate K 43000 (nI o) vl y) (gQ vl (fun r => fr kpG y r.2.2 ∧ (∃ C', vI r.2.1 W C') ∧ r.1 = nI (rk9 p (sz9 c ns dg (o + 1)) (rwl9 (fun i => if y.2.1 43014 i = 0 then MT9 c (fun g => g < 2 * c) rel (fun x => 2 * x) (fun x => S.2 (2 * x)) Ls ns dg o i else fun _ => 0) (sz9 c ns dg o))) ∧ ∃ u cl vv d9, kx9 r.2.2 p (sz9 c ns dg (o + 1)) u cl vv d9 ∧ El9 p (sz9 c ns dg (o + 1)) (fun i => if y.2.1 43014 i = 0 then MT9 c (fun g => g < 2 * c) rel (fun x => 2 * x) (fun x => S.2 (2 * x)) Ls ns dg o i else fun _ => 0) (sz9 c ns dg o) d9)) := by
  have hp1 := hp.1
  generalize hM : (fun i => if y.2.1 43014 i = 0 then MT9 c (fun g => g < 2 * c) rel (fun x => 2 * x) (fun x => S.2 (2 * x)) Ls ns dg o i else fun _ => 0) = M
  have hM0 : ∀ i, y.2.1 43014 i = 0 → M i = MT9 c (fun g => g < 2 * c) rel (fun x => 2 * x) (fun x => S.2 (2 * x)) Ls ns dg o i := fun i hi => by
    rw [← hM]
    exact if_pos hi
  have hM1 : ∀ i, ¬ y.2.1 43014 i = 0 → M i = fun _ => 0 := fun i hi => by
    rw [← hM]
    exact if_neg hi
  generalize hw : sz9 c ns dg (o + 1) = w
  have hw' : smH (bkF ns dg) (o + 1) 0 (2 ^ c) = w := hw
  let Q : Int32 × (Nat → Nat) × ow_MS → Prop := fun r => fr kpG y r.2.2 ∧ (∃ C', vI r.2.1 W C') ∧ r.1 = nI (rk9 p w (rwl9 M (sz9 c ns dg o))) ∧ ∃ u cl vv d9, kx9 r.2.2 p w u cl vv d9 ∧ El9 p w M (sz9 c ns dg o) d9
  let ST : Nat → (Nat → Nat) → ow_MS → Prop := fun n v z => ∃ C' u cl vv d9, vI v W C' ∧ fr kpG y z ∧ rI z w u C' ∧ kx9 z p w u cl vv d9 ∧ El9 p w M n d9 ∧ ∀ j, j < w → z.2.1 43011 j = 0
  have hw1 : w ≤ 1140 := by rw [← hw']; exact (hsz _).1
  have hwW : w ≤ W := by rw [← hw']; exact (hsz _).2 (by omega)
  have h256 : 2 ^ c ≤ 256 := two_mono (b := 8) hc
  have c1 : ∀ (d s : Nat) (v : Nat → Nat) (z : ow_MS), s + d = 2 ^ c → ST (smH (bkF ns dg) o 0 s) v z → Tt (fun K k => d_X1_eliminate K k 1 (nI o) (nI w) (nI (rk9 p w (rwl9 M (smH (bkF ns dg) o 0 s)))) (nI s) 0 43000 v z) (gQ v Q) := by
    intro d
    induction d with
    | zero =>
      intro s v z hs hst
      obtain ⟨C', u, cl, vv, d9, hv', hz, hI, hx, hE, hz0⟩ := hst
      have hz4 : cAt z 44000 (c, ci, S, G) := cAt_fr hz (fun g hg h9 => by unfold cP at hg; unfold kpG at h9; omega) hy
      refine u_X1_eliminate_1 ?_; unfold dm_X1_eliminate_1
      refine w_rdF hz4.1 ?_
      rw [shl1 (by omega)]
      rw [show s = 2 ^ c by omega] at hE ⊢
      exact w_leT (a := 2 ^ c) (b := 2 ^ c) (by omega) (by omega) (w_some ⟨Nat.le_refl _, hz, ⟨C', hv'⟩, rfl, u, cl, vv, d9, hx, hE⟩)
    | succ d ih =>
      intro s v z hs hst
      have hst0 := hst
      obtain ⟨C', u, cl, vv, d9, hv', hz, hI, hx, hE, hz0⟩ := hst
      have hz4 : cAt z 44000 (c, ci, S, G) := cAt_fr hz (fun g hg h9 => by unfold cP at hg; unfold kpG at h9; omega) hy
      have hsc : s < 2 ^ c := by omega
      have hns := (hL s hsc).2
      have two9 : 2 ^ ns s ≤ 512 := two_mono (b := 9) hns
      have c4 : ∀ (n : Nat) (v : Nat → Nat) (z : ow_MS), n = smH (bkF ns dg) o 0 (s + 1) → ST n v z → Tt (fun K k => d_X1_eliminate K k 4 (nI o) (nI w) (nI (rk9 p w (rwl9 M n))) (nI s) 0 43000 v z) (gQ v Q) := by
        intro n v z hn hst
        refine u_X1_eliminate_4 ?_; unfold dm_X1_eliminate_4
        rw [nI_1]
        rw [hn] at hst ⊢
        exact ih (s + 1) v z (by omega) hst
      have fits : ∀ kp, kpF (ns s) (pc s) dg = some kp → pc s = o → ∀ (d2 m : Nat) (v : Nat → Nat) (z : ow_MS), m + d2 = 2 ^ ns s → ST (smH (bkF ns dg) o 0 s + cpN kp m) v z → Tt (fun K k => d_X1_eliminate K k 2 (nI o) (nI w) (nI (rk9 p w (rwl9 M (smH (bkF ns dg) o 0 s + cpN kp m)))) (nI s) (nI m) 43000 v z) (gQ v Q) := by
        intro kp hkp hpo d2
        induction d2 with
        | zero =>
          intro m v z hm hst
          have hst0 := hst
          obtain ⟨C', u, cl, vv, d9, hv', hz, hI, hx, hE, hz0⟩ := hst
          have e3 : z.2.1 43003 s = nI (ns s) := by
            rw [(hz 43003 (by unfold kpG; omega)).2.1]
            exact (hL s hsc).1.2.1
          refine u_X1_eliminate_2 ?_; unfold dm_X1_eliminate_2
          refine w_crI ch_43003 rfl (by omega) e3 ?_
          rw [shl1 (by omega)]
          refine w_leT (a := 2 ^ ns s) (b := m) (by omega) (by omega) (c4 _ v z ?_ hst0)
          rw [smH_s, if_pos hpo, show m = 2 ^ ns s by omega, cpN_bi _ _ (by omega)]
          unfold bkF
          rw [hkp]
        | succ d2 ih2 =>
          intro m v z hm hst
          have hst0 := hst
          obtain ⟨C', u, cl, vv, d9, hv', hz, hI, hx, hE, hz0⟩ := hst
          have e3 : z.2.1 43003 s = nI (ns s) := by
            rw [(hz 43003 (by unfold kpG; omega)).2.1]
            exact (hL s hsc).1.2.1
          have e7 : z.2.1 43007 s = nI kp := by
            rw [(hz 43007 (by unfold kpG; omega)).2.1, (hly.1 s hsc).1, hkp]
            rfl
          have e8 : z.2.1 43008 s = nI (smH (bkF ns dg) (pc s) 0 s) := by
            rw [(hz 43008 (by unfold kpG; omega)).2.1]
            exact (hly.1 s hsc).2
          have e5 : z.2.1 43005 m = nI (cpN (pc m) m) := by
            rw [(hz 43005 (by unfold kpG; omega)).2.1]
            exact htb m (by omega)
          have c3 : ∀ (n : Nat) (v : Nat → Nat) (z : ow_MS), n = smH (bkF ns dg) o 0 s + cpN kp (m + 1) → ST n v z → Tt (fun K k => d_X1_eliminate K k 3 (nI o) (nI w) (nI (rk9 p w (rwl9 M n))) (nI s) (nI m) 43000 v z) (gQ v Q) := by
            intro n v z hn hst
            refine u_X1_eliminate_3 ?_; unfold dm_X1_eliminate_3
            rw [nI_1]
            rw [hn] at hst ⊢
            exact ih2 (m + 1) v z (by omega) hst
          have cps : cpN kp (m + 1) = cpN kp m + if pc m = kp then 1 else 0 := rfl
          have hkp9 : kp ≤ ns s := kpF_le hkp
          have hpm : pc m ≤ ns s := pc_le (by omega)
          refine u_X1_eliminate_2 ?_; unfold dm_X1_eliminate_2
          refine w_crI ch_43003 rfl (by omega) e3 ?_
          rw [shl1 (by omega), bc_pc (show m < 4096 by omega)]
          refine w_leF (a := 2 ^ ns s) (b := m) (by omega) (by omega) (w_crI ch_43007 rfl (by omega) e7 (w_eqN (by omega) (by omega) (fun hpc => ?_) (fun hpc => c3 _ v z (by rw [cps, if_neg hpc]; rfl) hst0)))
          rw [if_pos hpc] at cps
          have hk2 : kpF (ns s) (pc s) dg = some (pc m) := by rw [hkp, hpc]
          have hix := ix_lt hsc hns (show m < 2 ^ ns s by omega) hk2
          rw [hpo] at hix
          have hoW := (hsz o).2 (by omega)
          have ho1 := (hsz o).1
          have hv2 := hv'
          obtain ⟨h1, h2, h3, h4, h5, h6, h7, h8, h9, h0⟩ := hv'
          refine w_crI ch_43008 rfl (by omega) e8 (w_crI ch_43005 rfl (by omega) e5 ?_)
          rw [nI_add]
          have e14 : z.2.1 43014 (smH (bkF ns dg) (pc s) 0 s + cpN (pc m) m) = y.2.1 43014 (smH (bkF ns dg) o 0 s + cpN kp m) := by
            rw [(hz 43014 (by unfold kpG; omega)).2.1, hpo, hpc]
          have hva : va9 c ns dg o s m := ⟨hsc, hpo, by omega, hk2⟩
          have hin : ix9 ns dg s m = smH (bkF ns dg) o 0 s + cpN kp m := by
            unfold ix9
            rw [hpo, hpc]
          refine w_crI (ch_43014.trans h4) rfl (show smH (bkF ns dg) (pc s) 0 s + cpN (pc m) m < W by rw [hpo]; omega) e14 (w_if (fun hcl => ?_) (fun hcl => ?_))
          · have ep : z.1 43010 = nI p := ((hz 43010 (by unfold kpG; omega)).1).trans h10
            have hz4 : cAt z 44000 (c, ci, S, G) := cAt_fr hz (fun g hg h9 => by unfold cP at hg; unfold kpG at h9; omega) hy
            have w0 : wk9 z p (sz9 c ns dg (pc s + 1)) (fun _ => 0) := fun j hj => by
              rw [hpo, hw] at hj
              exact ⟨0, hz0 j hj, by omega, Int.dvd_zero _⟩
            refine w_cs0 (te_writeImage (vl := v) (W := W) (p := p) (dg := dg) hz4 hvn hc hwf (LpY_fr hz (by unfold kpG; omega) hL) (LyY_fr hz (by unfold kpG; omega) hly) (tbP_fr hz (by unfold kpG; omega) htb) hsc (show m < 2 ^ ns s by omega) hk2 h1 (by omega) (by rw [hpo, hw']; exact hwW) ep hp1 hp2 hC hLT w0) ?_
            rintro z1 ⟨hz1, hk1⟩
            have hf1 : fr kpG y z1 := fr_tr hz (fr_mono (fun g hg => Or.inl hg) hz1)
            rw [hpo, hw] at hk1
            have hk3 : wk9 z1 p w (M (smH (bkF ns dg) o 0 s + cpN kp m)) := wk_cg hk1 (fun j hj => by
              rw [hM0 _ hcl, ← hin, MT_row hC hLT (by omega) hva (by rw [hw]; exact hj), Int.sub_self]
              exact Int.dvd_zero _)
            refine w_dc1 (te_reduce hv2 hw1 hwW (rI_fr hz1 (by omega) hI) (((hf1 43010 (by unfold kpG; omega)).1).trans h10) hp hp2 (kx_fr hz1 (by omega) hx) hE hk3) ?_
            rintro x v2 z2 ⟨r1, r2, C2, u2, cl2, vv2, d2', ρ, r3, r4, r5, r6, r7, r8, r9⟩
            dsimp only at r7
            rw [r7, nI_add, ← r8]
            exact w_chV r1 (c3 _ v2 z2 (by rw [cps]; rfl) ⟨C2, u2, cl2, vv2, d2', r3, fr_tr hf1 r2, r4, r5, r6, r9⟩)
          · have hz9 : sp9 p w (rwl9 d9 w) (M (smH (bkF ns dg) o 0 s + cpN kp m)) := by
              rw [hM1 _ hcl]
              exact sp_0
            obtain ⟨e1, e2⟩ := El_n hE hz9
            rw [← e2]
            exact c3 _ v z (by rw [cps]; rfl) ⟨C', u, cl, vv, d9, hv2, hz, hI, hx, e1, hz0⟩
      have e7 : z.2.1 43007 s = oM (kpF (ns s) (pc s) dg) := by
        rw [(hz 43007 (by unfold kpG; omega)).2.1]
        exact (hly.1 s hsc).1
      have hps := pc_le (c := c) hsc
      refine u_X1_eliminate_1 ?_; unfold dm_X1_eliminate_1
      refine w_rdF hz4.1 ?_
      rw [shl1 (by omega), bc_pc (show s < 4096 by omega)]
      refine w_leF (a := 2 ^ c) (b := s) (by omega) (by omega) (w_eqN (by omega) (by omega) (fun hpo => w_crI ch_43007 rfl (by omega) e7 ?_) (fun hpo => c4 _ v z (by rw [smH_s, if_neg hpo]; rfl) hst0))
      cases hkp : kpF (ns s) (pc s) dg with
      | none =>
        refine w_ifT rfl (c4 _ v z ?_ hst0)
        rw [smH_s, if_pos hpo]
        unfold bkF
        rw [hkp]
        rfl
      | some kp =>
        have hkp9 : kp ≤ ns s := kpF_le hkp
        exact w_ifF (rn_neg1 (by omega)) (fits kp hkp hpo (2 ^ ns s) 0 v z (by omega) hst0)
  have hv0 := hv
  obtain ⟨h1, h2, h3, h4, h5, h6, h7, h8, h9, h0⟩ := hv
  refine e_X1_eliminate ?_
  refine u_X1_eliminate_0 ?_; unfold dm_X1_eliminate_0
  rw [nI_1]
  refine w_crI ch_43009 rfl (by omega) ((hly.2 (o + 1) (by omega)).trans (by rw [hw'])) (w_wrF ?_)
  refine w_cs0 (tc_fill (a := 0) (b := w) (ch_43012.trans h2) (by omega) hwW (by omega)) ?_
  rintro z1 ⟨f1, f2⟩
  refine w_cs0 (tc_fill (a := 0) (b := w) (ch_43011.trans h1) (by omega) hwW (by omega)) ?_
  rintro z2 ⟨f3, f4⟩
  have g12 : ∀ k, k < w → z2.2.1 43012 k = -1 := fun k hk => by
    rw [(f4 43012 (by omega)).2.1, f1 k, if_pos (by omega)]
  refine c1 (2 ^ c) 0 vl z2 (by omega) ⟨C, 0, fun _ => 0, fun _ => 0, fun _ _ => 0, hv0, fr_tr (fr_tr (fr_F (by unfold kpG; omega)) (fr_mono (fun g hg => by unfold kpG; omega) f2)) (fr_mono (fun g hg => by unfold kpG; omega) f4), ⟨?_, Nat.zero_le _, Nat.zero_le _, fun k hk => Or.inl (g12 k hk), fun i hi => absurd hi (Nat.not_lt_zero _)⟩, ⟨fun i hi => absurd hi (Nat.not_lt_zero _), fun k hk => Or.inl ⟨g12 k hk, fun j _ => Int.dvd_zero _⟩⟩, El_0, fun j hj => ?_⟩
  · rw [(f4 43017 (by omega)).1, (f2 43017 (by omega)).1]
    exact po_usF_at
  · rw [f3 j, if_pos (by omega)]
end XCJ5
