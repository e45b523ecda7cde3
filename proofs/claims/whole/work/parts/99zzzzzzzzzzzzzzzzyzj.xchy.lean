-- CHAIN: the ranks of one degree (made by tools/mkchy.py out of clay)
def bf9 (R : Nat → Nat) : Nat → Nat
  | 0 => 0
  | o + 1 => R o
section XCJ6
variable {vl : Nat → Nat} {y : ow_MS} {W C : Nat}
theorem te_lay6 {d c : Nat} {ns : Nat → Nat} (hsz : ∀ h, smH (bkF ns (dgI d)) h 0 (2 ^ c) ≤ 1140) : ∀ (e i : Nat) (v : Nat → Nat) (z : ow_MS) (W' : Nat), i + e = 10 → vI v W' C → (∀ h, h < i → smH (bkF ns (dgI d)) h 0 (2 ^ c) ≤ W') → fr lyG y z → LyY z c ns (dgI d) → Tt (fun K k => d_X1_layOut K k 6 (nI d - 10) (nI i) 0 0 0 43000 0 0 0 v z) (gQ v (fun r => fr lyG y r.2.2 ∧ LyY r.2.2 c ns (dgI d) ∧ ∃ W', vI r.2.1 W' C ∧ (∀ h, h < 10 → smH (bkF ns (dgI d)) h 0 (2 ^ c) ≤ W') ∧ ∀ i, i < W' → r.2.2.2.1 43014 i = 0)) := by
  intro e
  induction e with
  | zero =>
    intro i v z W' hi hv' hle hz hly
    have hv2 := hv'
    obtain ⟨h1, h2, h3, h4, h5, h6, h7, h8, h9, h0⟩ := hv'
    refine u_X1_layOut_6 ?_; unfold dm_X1_layOut_6
    rw [show uw_len (cX v) z (43000 + 9) = 10 from rfl]
    refine w_leT (a := 10) (b := i) (by omega) (by omega) (w_cs0 (tc_fillA (ch_43014.trans h4) (by omega)) ?_)
    rintro z1 ⟨f1, f2⟩
    exact w_some ⟨Nat.le_refl _, fr_tr hz (fr_mono (fun g hg => by unfold lyG; omega) f2), LyY_fr f2 (by omega) hly, W', hv2, fun h hh => hle h (by omega), fun i hi => f1 i hi⟩
  | succ e ih =>
    intro i v z W' hi hv' hle hz hly
    refine u_X1_layOut_6 ?_; unfold dm_X1_layOut_6
    rw [show uw_len (cX v) z (43000 + 9) = 10 from rfl]
    refine w_leF (a := 10) (b := i) (by omega) (by omega) (w_crI ch_43009 rfl (by omega) (hly.2 i (by omega)) (w_dc1 (tc_makeRoom hv' (hsz i)) ?_))
    rintro x v1 z1 ⟨r1, r2, W2, r3, r4, r5⟩
    refine w_chV r1 ?_
    rw [nI_1]
    refine ih (i + 1) v1 z1 W2 (by omega) r3 (fun h hh => ?_) (fr_tr hz (fr_mono (fun g hg => by unfold lyG; omega) r2)) (LyY_fr r2 (by omega) hly)
    rcases Nat.lt_or_ge h i with h9 | h9
    · exact Nat.le_trans (hle h h9) r4
    · rw [show h = i by omega]
      exact r5
theorem te_layOut {d c ci : Nat} {S : ow_NP} {G : Nat → Int32} {Ls : Nat → Nat → Nat} {ns : Nat → Nat} (hv : vI vl W C) (hy : cAt y 44000 (c, ci, S, G)) (hc : c ≤ 8) (hd : d < 29) (hL : LpY y S G c Ls ns) (hch : chP y) (hsz : ∀ h, smH (bkF ns (dgI d)) h 0 (2 ^ c) ≤ 1140) : Te (fun K => de_X1_layOut K 43000 (nI d - 10) vl y) (gQ vl (fun r => fr lyG y r.2.2 ∧ LyY r.2.2 c ns (dgI d) ∧ ∃ W', vI r.2.1 W' C ∧ (∀ h, h < 10 → smH (bkF ns (dgI d)) h 0 (2 ^ c) ≤ W') ∧ ∀ i, i < W' → r.2.2.2.1 43014 i = 0)) := by
  let Q : Unit × (Nat → Nat) × ow_MS → Prop := fun r => fr lyG y r.2.2 ∧ LyY r.2.2 c ns (dgI d) ∧ ∃ W', vI r.2.1 W' C ∧ (∀ h, h < 10 → smH (bkF ns (dgI d)) h 0 (2 ^ c) ≤ W') ∧ ∀ i, i < W' → r.2.2.2.1 43014 i = 0
  have h256 : 2 ^ c ≤ 256 := two_mono (b := 8) hc
  have c6 := te_lay6 (y := y) (C := C) hsz
  have c1 : ∀ (e s : Nat) (z : ow_MS), s + e = 2 ^ c → fr lyG y z → lyA z ns (dgI d) s → Tt (fun K k => d_X1_layOut K k 1 (nI d - 10) (nI s) 0 0 0 43000 0 0 0 vl z) (gQ vl Q) := by
    intro e
    induction e with
    | zero =>
      intro s z hs hz hA
      have hz4 : cAt z 44000 (c, ci, S, G) := cAt_fr hz (fun g hg h9 => by unfold cP at hg; unfold lyG at h9; omega) hy
      refine u_X1_layOut_1 ?_; unfold dm_X1_layOut_1
      refine w_rdF hz4.1 ?_
      rw [shl1 (by omega)]
      refine w_leT (a := 2 ^ c) (b := s) (by omega) (by omega) (c6 10 0 vl z W rfl hv (fun h hh => absurd hh (Nat.not_lt_zero _)) hz ?_)
      rw [show s = 2 ^ c by omega] at hA
      exact hA
    | succ e ih =>
      intro s z hs hz hA
      have hz4 : cAt z 44000 (c, ci, S, G) := cAt_fr hz (fun g hg h9 => by unfold cP at hg; unfold lyG at h9; omega) hy
      have hsc : s < 2 ^ c := by omega
      have hns := (hL s hsc).2
      have hps := pc_le (c := c) hsc
      have e3 : ∀ z1, fr lyG y z1 → z1.2.1 43003 s = nI (ns s) := fun z1 h1 => by
        rw [(h1 43003 (by unfold lyG; omega)).2.1]
        exact (hL s hsc).1.2.1
      generalize ht : nI (ns s) + (nI d - 10) - nI (pc s) = t
      -- the end of a state
      have c5 : ∀ (x5 : Int32) (b : Nat) (z1 : ow_MS), fr lyG y z1 → b = bkF ns (dgI d) s → (∀ t, t < s + 1 → z1.2.1 43007 t = oM (kpF (ns t) (pc t) (dgI d)) ∧ z1.2.1 43008 t = nI (smH (bkF ns (dgI d)) (pc t) 0 t)) → (∀ h, h < 10 → z1.2.1 43009 h = nI (smH (bkF ns (dgI d)) h 0 s)) → Tt (fun K k => d_X1_layOut K k 5 (nI d - 10) (nI s) (nI (pc s)) t x5 43000 (nI b) (nI (smH (bkF ns (dgI d)) (pc s) 0 s)) (nI (pc s)) vl z1) (gQ vl Q) := by
        intro x5 b z1 hz1 hb g1 g2
        refine u_X1_layOut_5 ?_; unfold dm_X1_layOut_5
        rw [nI_add, nI_1]
        exact w_ctI ch_43009 rfl (by omega) (ih (s + 1) _ (by omega) (fr_I2 hz1 lyG9) (lyA_st hb g1 g2))
      have c4 : ∀ (x5 t0 : Int32), t0 = oM (kpF (ns s) (pc s) (dgI d)) → (kpF (ns s) (pc s) (dgI d) = none ∧ x5 = 0 ∨ ∃ k, kpF (ns s) (pc s) (dgI d) = some k ∧ x5 = 1 ∧ t / 2 = nI k) → Tt (fun K k => d_X1_layOut K k 4 (nI d - 10) (nI s) (nI (pc s)) t x5 43000 t0 (nI s) 0 vl z) (gQ vl Q) := by
        intro x5 t0 h0 hk
        refine u_X1_layOut_4 ?_; unfold dm_X1_layOut_4
        have g9 : z.2.1 43009 (pc s) = nI (smH (bkF ns (dgI d)) (pc s) 0 s) := hA.2 _ (by omega)
        refine w_ctI ch_43007 rfl (by omega) (w_crI ch_43009 rfl (show pc s < 10 by omega) (rd_ot (by omega) g9) (w_ctI ch_43008 rfl (by omega) (w_crI ch_43009 rfl (show pc s < 10 by omega) (rd_ot (by omega) (rd_ot (by omega) g9)) ?_)))
        have hf : fr lyG y (usI (usI z (43000 + 7) s t0) (43000 + 8) s (nI (smH (bkF ns (dgI d)) (pc s) 0 s))) := fr_I2 (fr_I2 hz lyG7) lyG8
        obtain ⟨k1, k2⟩ := lyA_pr h0 hA
        rcases hk with ⟨hn, rfl⟩ | ⟨k, hk, rfl, hk2⟩
        · refine w_ifT rfl (c5 0 0 _ hf ?_ k1 k2)
          unfold bkF
          rw [hn]
        · have hkn := kpF_le hk
          refine w_ifF (by decide) (w_crI ch_43003 rfl (by omega) (e3 _ hf) (w_crX rfl (show ns s < 11 by omega) (w_nzI (by decide) ?_)))
          rw [hk2]
          refine w_crI (ch_450 (show ns s < 11 by omega)) rfl (show k < 11 by omega) ?_ (c5 1 (biN (ns s) k) _ hf ?_ k1 k2)
          · show (usI (usI z (43000 + 7) s t0) (43000 + 8) s (nI (smH (bkF ns (dgI d)) (pc s) 0 s))).2.1 (45001 + ns s) k = _
            rw [(hf (45001 + ns s) (by unfold lyG; omega)).2.1]
            exact hch (ns s) k (by omega) hkn
          · unfold bkF
            rw [hk]
      have c3a : kpF (ns s) (pc s) (dgI d) = none → Tt (fun K k => d_X1_layOut K k 3 (nI d - 10) (nI s) (nI (pc s)) t 0 43000 0 0 0 vl z) (gQ vl Q) := by
        intro hn
        refine u_X1_layOut_3 ?_; unfold dm_X1_layOut_3
        exact w_ifT rfl (c4 0 (-1) (by rw [hn]; rfl) (Or.inl ⟨hn, rfl⟩))
      have c2 : kpF (ns s) (pc s) (dgI d) = none → Tt (fun K k => d_X1_layOut K k 2 (nI d - 10) (nI s) (nI (pc s)) t 0 43000 0 0 0 vl z) (gQ vl Q) := by
        intro hn
        refine u_X1_layOut_2 ?_; unfold dm_X1_layOut_2
        exact c3a hn
      refine u_X1_layOut_1 ?_; unfold dm_X1_layOut_1
      refine w_rdF hz4.1 ?_
      rw [shl1 (by omega), bc_pc (show s < 4096 by omega)]
      refine w_leF (a := 2 ^ c) (b := s) (by omega) (by omega) (w_crI ch_43003 rfl (by omega) (e3 z hz) ?_)
      rw [ht]
      cases hk : kpF (ns s) (pc s) (dgI d) with
      | none =>
        have h9 := lk_A ⟨ns s, by omega⟩ ⟨pc s, by omega⟩ ⟨d, hd⟩ hk
        dsimp only at h9
        rw [ht] at h9
        refine w_if (fun a1 => w_if (fun _ => c2 hk) (fun a2 => w_crI ch_43003 rfl (by omega) (e3 z hz) (w_ifT ?_ (c2 hk)))) (fun _ => c2 hk)
        rcases h9 with h9 | h9 | h9
        · exact absurd a1 h9
        · exact absurd h9 a2
        · exact h9
      | some k =>
        have hkn := kpF_le hk
        obtain ⟨b1, b2, b3, b4⟩ := lk_B ⟨ns s, by omega⟩ ⟨pc s, by omega⟩ ⟨d, hd⟩ ⟨k, by omega⟩ hk
        dsimp only at b1 b2 b3 b4
        rw [ht] at b1 b2 b3 b4
        refine w_ifT b1 (w_ifF b2 (w_crI ch_43003 rfl (by omega) (e3 z hz) (w_ifF b3 ?_)))
        refine u_X1_layOut_3 ?_; unfold dm_X1_layOut_3
        refine w_ifF (by decide) (w_nzI (by decide) (c4 1 (t / 2) ?_ (Or.inr ⟨k, hk, rfl, b4⟩)))
        rw [hk, b4]
        rfl
  refine e_X1_layOut ?_
  refine u_X1_layOut_0 ?_; unfold dm_X1_layOut_0
  refine w_cs0 (tc_fillA (l := 10) rfl (by omega)) ?_
  rintro z1 ⟨f1, f2⟩
  exact c1 (2 ^ c) 0 z1 (by omega) (fr_mono (fun g hg => by unfold lyG; omega) f2) ⟨fun t ht => absurd ht (Nat.not_lt_zero _), fun h hh => f1 h hh⟩
theorem rk_w0 {p : Int} (d : Nat → vc9) : ∀ n, rk9 p 0 (rwl9 d n) = 0
  | 0 => rfl
  | n + 1 => (rk_y (sp_q (fun i hi => absurd hi (Nat.not_lt_zero _)) sp_0)).trans (rk_w0 d n)
theorem te_rankDegree {d p c ci : Nat} {S : ow_NP} {G : Nat → Int32} {Ls : Nat → Nat → Nat} {ns : Nat → Nat} {wf : Nat → Bool} (hv : vI vl W C) (hy : cAt y 44000 (c, ci, S, G)) (hvn : vn c S) (hc : c ≤ 8) (hd : d < 29) (hwf : gaO c S wf) (hL : LpY y S G c Ls ns) (htb : tbP y) (hch : chP y) (h10 : y.1 43010 = nI p) (hp : prT p) (hp2 : p ≤ 997) (hsz : ∀ h, smH (bkF ns (dgI d)) h 0 (2 ^ c) ≤ 1140) {rel : (Nat → Bool) → Nat → Nat → Prop} (hC : cu9 c 2000 (fun g => g < 2 * c) (fun x => 2 * x) (fun x => S.2 (2 * x)) (fun x => S.2 (2 * x)) rel) (hLT : LT9 c (fun g => g < 2 * c) rel Ls ns) {RK : Nat → Nat} (hRK : ∀ h, RK h = RK9 p c (fun g => g < 2 * c) rel (fun x => 2 * x) (fun x => S.2 (2 * x)) Ls ns (dgI d) h) : Te (fun K => de_X1_rankDegree K 43000 (nI d - 10) vl y) (gQ vl (fun r => fr rkG y r.2.2 ∧ (∃ W' C', vI r.2.1 W' C') ∧ (∀ o, o ≤ c → r.2.2.2.1 43018 (56 * o + d + 10) = nI (sz9 c ns (dgI d) o) - nI (RK o) - nI (bf9 RK o)) ∧ ∀ i, (∀ o, o ≤ c → i ≠ 56 * o + d + 10) → r.2.2.2.1 43018 i = y.2.1 43018 i)) := by
  have hp1 := hp.1
  have hpr := prp_of hp
  have hiv := iv_of hp
  let Q : Unit × (Nat → Nat) × ow_MS → Prop := fun r => fr rkG y r.2.2 ∧ (∃ W' C', vI r.2.1 W' C') ∧ (∀ o, o ≤ c → r.2.2.2.1 43018 (56 * o + d + 10) = nI (sz9 c ns (dgI d) o) - nI (RK o) - nI (bf9 RK o)) ∧ ∀ i, (∀ o, o ≤ c → i ≠ 56 * o + d + 10) → r.2.2.2.1 43018 i = y.2.1 43018 i
  generalize hMT : MT9 c (fun g => g < 2 * c) rel (fun x => 2 * x) (fun x => S.2 (2 * x)) Ls ns (dgI d) = MT
  have hRK2 : ∀ h, RK h = rk9 p (sz9 c ns (dgI d) (h + 1)) (rwl9 (MT h) (sz9 c ns (dgI d) h)) := fun h => by
    rw [hRK h, ← hMT]
    rfl
  -- what a row that is left out is made of
  let GD : Nat → Nat → Prop := fun o i => ∃ a : vc9, zq9 p (sz9 c ns (dgI d) (o + 1)) (MT o i) (fun j => sN9 (fun k => if i < k then a k * MT o k j else 0) (sz9 c ns (dgI d) o))
  let TB : Nat → ow_MS → Prop := fun o z => (∀ o', o' < o → z.2.1 43018 (56 * o' + d + 10) = nI (sz9 c ns (dgI d) o') - nI (RK o') - nI (bf9 RK o')) ∧ ∀ i, (∀ o, o ≤ c → i ≠ 56 * o + d + 10) → z.2.1 43018 i = y.2.1 43018 i
  have TB_ot : ∀ o z z1 (P : Nat → Prop), fr P z z1 → ¬ P 43018 → TB o z → TB o z1 := fun o z z1 P hf hP h => by
    have e : z1.2.1 43018 = z.2.1 43018 := (hf 43018 hP).2.1
    exact ⟨fun o' ho' => by rw [e]; exact h.1 o' ho', fun i hi => by rw [e]; exact h.2 i hi⟩
  have c1 : ∀ (W' : Nat), (∀ h, h < 10 → smH (bkF ns (dgI d)) h 0 (2 ^ c) ≤ W') → ∀ (e o : Nat) (v : Nat → Nat) (z : ow_MS) (C' : Nat), o + e = c + 1 → vI v W' C' → fr rkG y z → LyY z c ns (dgI d) → TB o z → (∀ i, i < sz9 c ns (dgI d) o → ¬ z.2.1 43014 i = 0 → GD o i) → Tt (fun K k => d_X1_rankDegree K k 1 (nI d - 10) (nI (bf9 RK o)) (nI o) 0 0 43000 0 0 v z) (gQ v Q) := by
    intro W' hle e
    induction e with
    | zero =>
      intro o v z C' ho hv' hz hly htb9 hcl
      have hz4 : cAt z 44000 (c, ci, S, G) := cAt_fr hz (fun g hg h9 => by unfold cP at hg; unfold rkG lyG kpG at h9; omega) hy
      refine u_X1_rankDegree_1 ?_; unfold dm_X1_rankDegree_1
      exact w_rdF hz4.1 (w_ltT (a := c) (b := o) (by omega) (by omega) (w_some ⟨Nat.le_refl _, hz, ⟨W', C', hv'⟩, fun o' ho' => htb9.1 o' (by omega), htb9.2⟩))
    | succ e ih =>
      intro o v z C' ho hv' hz hly htb9 hcl
      have hz4 : cAt z 44000 (c, ci, S, G) := cAt_fr hz (fun g hg h9 => by unfold cP at hg; unfold rkG lyG kpG at h9; omega) hy
      generalize hw : sz9 c ns (dgI d) (o + 1) = w
      have hw' : smH (bkF ns (dgI d)) (o + 1) 0 (2 ^ c) = w := hw
      have hw1 : w ≤ 1140 := by rw [← hw']; exact hsz _
      have hwW : w ≤ W' := by rw [← hw']; exact hle _ (by omega)
      have c3 : ∀ (e2 i : Nat) (v : Nat → Nat) (z : ow_MS) (C' : Nat), i + e2 = w → vI v W' C' → fr rkG y z → LyY z c ns (dgI d) → TB (o + 1) z → (∀ j, j < w → RK o ≠ 0 → ¬ z.2.1 43012 j = -1 → GD (o + 1) j) → (∀ j, j < i → ¬ z.2.1 43014 j = 0 → GD (o + 1) j) → Tt (fun K k => d_X1_rankDegree K k 3 (nI d - 10) (nI (RK o)) (nI o) (nI (RK o)) (nI i) 43000 0 0 v z) (gQ v Q) := by
        intro e2
        induction e2 with
        | zero =>
          intro i v z C' hi hv' hz hly ht9 hkx hdn
          refine u_X1_rankDegree_3 ?_; unfold dm_X1_rankDegree_3
          rw [nI_1]
          exact w_crI ch_43009 rfl (by omega) ((hly.2 (o + 1) (by omega)).trans (by rw [hw'])) (w_leT (a := w) (b := i) (by omega) (by omega) (ih (o + 1) v z C' (by omega) hv' hz hly ht9 (fun j hj h9 => hdn j (by rw [hw] at hj; omega) h9)))
        | succ e2 ih2 =>
          intro i v z C' hi hv' hz hly ht9 hkx hdn
          have hv2 := hv'
          obtain ⟨h1, h2, h3, h4, h5, h6, h7, h8, h9, h0⟩ := hv'
          have c5 : ∀ t0 : Int32, (¬ t0 = 0 → GD (o + 1) i) → Tt (fun K k => d_X1_rankDegree K k 5 (nI d - 10) (nI (RK o)) (nI o) (nI (RK o)) (nI i) 43000 t0 (nI i) v z) (gQ v Q) := by
            intro t0 hgd
            refine u_X1_rankDegree_5 ?_; unfold dm_X1_rankDegree_5
            rw [nI_1]
            refine w_ctI (ch_43014.trans h4) rfl (by omega) (ih2 (i + 1) v _ C' (by omega) hv2 (fr_I2 hz (by unfold rkG lyG; omega)) (LyY_fr (fr_I (P := fun g => g = 43014) rfl) (by omega) hly) (TB_ot _ _ _ _ (fr_I (P := fun g => g = 43014) rfl) (by omega) ht9) (fun j hj h8 h9 => hkx j hj h8 (fun h7 => h9 (rd_ot (by omega) h7))) (fun j hj h9 => ?_))
            by_cases q : j = i
            · rw [q]
              refine hgd (fun h8 => h9 ?_)
              rw [q, h8]
              exact po_usI_at
            · exact hdn j (by omega) (fun h8 => h9 ((po_usI_ne q).trans h8))
          have c4 : Tt (fun K k => d_X1_rankDegree K k 4 (nI d - 10) (nI (RK o)) (nI o) (nI (RK o)) (nI i) 43000 (nI i) 0 v z) (gQ v Q) := by
            refine u_X1_rankDegree_4 ?_; unfold dm_X1_rankDegree_4
            exact c5 0 (fun h9 => absurd rfl h9)
          have r31 : RK o < 2 ^ 31 := by
            rw [hRK2 o]
            have : ∀ n, rk9 (p : Int) (sz9 c ns (dgI d) (o + 1)) (rwl9 (MT o) n) ≤ n := by
              intro n
              induction n with
              | zero => exact Nat.le_refl 0
              | succ n ihn =>
                show rk9 (p : Int) (sz9 c ns (dgI d) (o + 1)) (rwl9 (MT o) n) + _ ≤ n + 1
                by_cases q : sp9 p (sz9 c ns (dgI d) (o + 1)) (rwl9 (MT o) n) (MT o n)
                · rw [if_pos q]
                  omega
                · rw [if_neg q]
                  omega
            have h9 := this (sz9 c ns (dgI d) o)
            have h8 : sz9 c ns (dgI d) o ≤ 1140 := hsz o
            omega
          refine u_X1_rankDegree_3 ?_; unfold dm_X1_rankDegree_3
          rw [nI_1]
          refine w_crI ch_43009 rfl (by omega) ((hly.2 (o + 1) (by omega)).trans (by rw [hw'])) (w_leF (a := w) (b := i) (by omega) (by omega) (w_le (a := RK o) (b := 0) r31 (by omega) (fun _ => c4) (fun hr0 => w_crI (ch_43012.trans h2) rfl (by omega) rfl (w_if (fun _ => c4) (fun h12 => c5 1 (fun _ => hkx i (by omega) (by omega) h12))))))
      have c2 : ∀ (v : Nat → Nat) (z : ow_MS) (C' : Nat), vI v W' C' → fr rkG y z → LyY z c ns (dgI d) → TB o z → (∀ j, j < w → RK o ≠ 0 → ¬ z.2.1 43012 j = -1 → GD (o + 1) j) → Tt (fun K k => d_X1_rankDegree K k 2 (nI d - 10) (nI (bf9 RK o)) (nI o) (nI (RK o)) 0 43000 0 0 v z) (gQ v Q) := by
        intro v z C' hv' hz hly ht9 hkx
        refine u_X1_rankDegree_2 ?_; unfold dm_X1_rankDegree_2
        rw [ix_56 ⟨o, by omega⟩ ⟨d, hd⟩]
        refine w_crI ch_43009 rfl (by omega) (hly.2 o (by omega)) (w_ctI ch_43018 rfl (by dsimp only; omega) (c3 w 0 v _ C' (by omega) hv' (fr_I2 hz (by unfold rkG; omega)) (LyY_fr (fr_I (P := fun g => g = 43018) rfl) (by omega) hly) ⟨fun o' ho' => ?_, fun i hi => ?_⟩ (fun j hj h8 h9 => hkx j hj h8 (fun h7 => h9 (rd_ot (by omega) h7))) (fun j hj => absurd hj (Nat.not_lt_zero _))))
        · by_cases q : o' = o
          · rw [q]
            exact po_usI_at
          · exact (po_usI_ne (by dsimp only; omega)).trans (ht9.1 o' (by omega))
        · exact (po_usI_ne (hi o (by omega))).trans (ht9.2 i hi)
      have ep : z.1 43010 = nI p := ((hz 43010 (by unfold rkG lyG kpG; omega)).1).trans h10
      have so : sz9 c ns (dgI d) o ≤ 1140 := hsz o
      have triv : RK o = 0 → Tt (fun K k => d_X1_rankDegree K k 2 (nI d - 10) (nI (bf9 RK o)) (nI o) 0 0 43000 0 0 v z) (gQ v Q) := fun h9 => by
        have q := c2 v z C' hv' hz hly htb9 (fun j _ h8 => absurd h9 h8)
        rw [h9] at q
        exact q
      refine u_X1_rankDegree_1 ?_; unfold dm_X1_rankDegree_1
      rw [nI_1]
      refine w_rdF hz4.1 (w_ltF (a := c) (b := o) (by omega) (by omega) (w_crI ch_43009 rfl (by omega) (hly.2 o (by omega)) (w_le (a := sz9 c ns (dgI d) o) (b := 0) (by omega) (by omega) (fun h9 => triv ?_) (fun _ => w_crI ch_43009 rfl (by omega) (hly.2 (o + 1) (by omega)) (w_le (a := sz9 c ns (dgI d) (o + 1)) (b := 0) (by rw [hw]; omega) (by omega) (fun h9 => triv ?_) (fun _ => ?_))))))
      · rw [hRK2 o, show sz9 c ns (dgI d) o = 0 by omega]
        rfl
      · rw [hRK2 o, show sz9 c ns (dgI d) (o + 1) = 0 by omega]
        exact rk_w0 _ _
      refine w_dc1 (te_eliminate hv' hz4 hvn hc hwf (LpY_fr hz (by unfold rkG lyG kpG; omega) hL) hly (tbP_fr hz (by unfold rkG lyG kpG; omega) htb) (by omega) ep hp hp2 (fun h => ⟨hsz h, hle h⟩) hC hLT) ?_
      rintro x v1 z1 ⟨r1, r2, ⟨C2, r3⟩, r4, u, cl, vv, d9, r5, r6⟩
      dsimp only at r4
      rw [hMT, hw] at r4 r6
      rw [hw] at r5
      have er : rk9 (p : Int) w (rwl9 (fun i => if z.2.1 43014 i = 0 then MT o i else fun _ => 0) (sz9 c ns (dgI d) o)) = RK o := by
        rw [hRK2 o, hw]
        refine rk_cl hpr hiv (fun i => ¬ z.2.1 43014 i = 0) (fun i _ hi => if_pos (Classical.not_not.mp hi)) (fun i _ hi => if_neg hi) (fun i hi h9 => ?_)
        have := hcl i hi h9
        rw [← hw]
        exact this
      rw [r4, er]
      refine w_chV r1 (c2 v1 z1 C2 r3 (fr_tr hz (fr_mono (fun g hg => Or.inr (Or.inl hg)) r2)) (LyY_fr r2 (by unfold kpG; omega) hly) (TB_ot _ _ _ _ r2 (by unfold kpG; omega) htb9) (fun j hj _ h12 => ?_))
      rcases r5.2 j hj with ⟨q1, -⟩ | ⟨ra, rb, q1, q2, q3, q4, q5, q6, q7⟩
      · exact absurd q1 h12
      · have sp1 : sp9 p w (rwl9 (MT o) (sz9 c ns (dgI d) o)) (d9 j) := by
          have s1 : sp9 p w (rwl9 (fun i => if z.2.1 43014 i = 0 then MT o i else fun _ => 0) (sz9 c ns (dgI d) o)) (d9 j) := (r6.2 _).mpr (sp_in (rwl_in hj))
          refine sp_tr s1 (fun q hq => ?_)
          obtain ⟨k, k1, k2⟩ := rwl_mem hq
          rw [k2]
          by_cases cq : z.2.1 43014 k = 0
          · rw [if_pos cq]
            exact sp_in (rwl_in k1)
          · rw [if_neg cq]
            exact sp_0
        have nd : ¬ (p : Int) ∣ d9 j j := fun h9 => by
          have := Int.dvd_sub h9 q7
          rw [show d9 j j - (d9 j j - 1) = 1 by omega] at this
          have := Int.le_of_dvd (by omega) this
          omega
        have := MT_cl (h := o) (dg := dgI d) hpr hiv hC hLT (by omega) (w := d9 j) (g := j) (by rw [hw]; exact hj) (by rw [hw, hMT]; exact sp1) (r6.1 j hj).1 nd
        rw [hMT] at this
        exact this
  refine e_X1_rankDegree ?_
  refine u_X1_rankDegree_0 ?_; unfold dm_X1_rankDegree_0
  refine w_dc1 (te_layOut hv hy hc hd hL hch hsz) ?_
  rintro x v1 z1 ⟨r1, r2, r3, W2, r4, r5, r6⟩
  have e18 : z1.2.1 43018 = y.2.1 43018 := (r2 43018 (by unfold lyG; omega)).2.1
  refine w_chV r1 (c1 W2 r5 (c + 1) 0 v1 z1 C (by omega) r4 (fr_mono (fun g hg => Or.inl hg) r2) r3 ⟨fun o' ho' => absurd ho' (Nat.not_lt_zero _), fun i _ => by rw [e18]⟩ (fun i hi h9 => absurd (r6 i (Nat.lt_of_lt_of_le hi (r5 0 (by omega)))) h9))
end XCJ6
