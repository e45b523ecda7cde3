/-! the class: generators laid out -/
def dgI (d : Nat) : Int := (d : Int) - 10
theorem lk_A : ∀ n : Fin 10, ∀ h : Fin 9, ∀ d : Fin 29, (kpF n.val h.val (dgI d.val) = none → ¬ (nI n.val + (nI d.val - 10) - nI h.val) &&& 1 = 0 ∨ nI n.val + (nI d.val - 10) - nI h.val < 0 ∨ 2 * nI n.val < nI n.val + (nI d.val - 10) - nI h.val) := by decide +kernel
theorem lk_B : ∀ n : Fin 10, ∀ h : Fin 9, ∀ d : Fin 29, ∀ k : Fin 10, (kpF n.val h.val (dgI d.val) = some k.val → (nI n.val + (nI d.val - 10) - nI h.val) &&& 1 = 0 ∧ ¬ nI n.val + (nI d.val - 10) - nI h.val < 0 ∧ ¬ 2 * nI n.val < nI n.val + (nI d.val - 10) - nI h.val ∧ (nI n.val + (nI d.val - 10) - nI h.val) / 2 = nI k.val) := by decide +kernel
theorem ch_450 {vl : Nat → Nat} {j : Nat} (hj : j < 11) : ((cX vl).2 (43000 + 2001 + j)).2.1 = 11 := by
  have key : ∀ j, j < 11 → dynL.contains (43000 + 2001 + j) = false ∧ (cX_f (43000 + 2001 + j)).2.1 = 11 := by decide +kernel
  obtain ⟨k1, k2⟩ := key j hj
  show (if dynL.contains (43000 + 2001 + j) = true then (0, vl (43000 + 2001 + j), []) else cX_f (43000 + 2001 + j)).2.1 = 11
  rw [if_neg (by rw [k1]; decide)]
  exact k2
/-- the table of numbers of choices -/
def chP (y : ow_MS) : Prop := ∀ i k, i < 10 → k ≤ i → y.2.1 (45001 + i) k = nI (biN i k)
def lyG (g : Nat) : Prop := g = 43007 ∨ g = 43008 ∨ g = 43009 ∨ g = 43011 ∨ g = 43012 ∨ g = 43013 ∨ g = 43014
theorem lyG9 : lyG 43009 := Or.inr (Or.inr (Or.inl rfl))
theorem lyG7 : lyG 43007 := Or.inl rfl
theorem lyG8 : lyG 43008 := Or.inr (Or.inl rfl)
def lyA (z : ow_MS) (ns : Nat → Nat) (dg : Int) (s : Nat) : Prop := (∀ t, t < s → z.2.1 43007 t = oM (kpF (ns t) (pc t) dg) ∧ z.2.1 43008 t = nI (smH (bkF ns dg) (pc t) 0 t)) ∧ ∀ h, h < 10 → z.2.1 43009 h = nI (smH (bkF ns dg) h 0 s)
theorem lyA_st {z1 : ow_MS} {ns : Nat → Nat} {dg : Int} {s b : Nat} (hb : b = bkF ns dg s) (g1 : ∀ t, t < s + 1 → z1.2.1 43007 t = oM (kpF (ns t) (pc t) dg) ∧ z1.2.1 43008 t = nI (smH (bkF ns dg) (pc t) 0 t)) (g2 : ∀ h, h < 10 → z1.2.1 43009 h = nI (smH (bkF ns dg) h 0 s)) : lyA (usI z1 43009 (pc s) (nI (smH (bkF ns dg) (pc s) 0 s + b))) ns dg (s + 1) := by
  refine ⟨fun t ht => ⟨?_, ?_⟩, fun h hh => ?_⟩
  · exact rd_ot (by omega) (g1 t ht).1
  · exact rd_ot (by omega) (g1 t ht).2
  · show _ = nI (smH (bkF ns dg) h 0 s + if pc s = h then bkF ns dg (0 + s) else 0)
    by_cases e9 : h = pc s
    · rw [if_pos e9.symm, Nat.zero_add, ← hb, e9]
      exact po_usI_at
    · rw [if_neg (fun h9 => e9 h9.symm), Nat.add_zero]
      exact (po_usI_ne e9).trans (g2 h hh)
theorem lyA_pr {z : ow_MS} {ns : Nat → Nat} {dg : Int} {s : Nat} {t0 : Int32} (h0 : t0 = oM (kpF (ns s) (pc s) dg)) (hA : lyA z ns dg s) : (∀ t, t < s + 1 → (usI (usI z 43007 s t0) 43008 s (nI (smH (bkF ns dg) (pc s) 0 s))).2.1 43007 t = oM (kpF (ns t) (pc t) dg) ∧ (usI (usI z 43007 s t0) 43008 s (nI (smH (bkF ns dg) (pc s) 0 s))).2.1 43008 t = nI (smH (bkF ns dg) (pc t) 0 t)) ∧ ∀ h, h < 10 → (usI (usI z 43007 s t0) 43008 s (nI (smH (bkF ns dg) (pc s) 0 s))).2.1 43009 h = nI (smH (bkF ns dg) h 0 s) := by
  refine ⟨fun t1 ht1 => ?_, fun h hh => rd_ot (by omega) (rd_ot (by omega) (hA.2 h hh))⟩
  by_cases e9 : t1 = s
  · subst e9
    exact ⟨rd_ot (by omega) (po_usI_at.trans h0), po_usI_at⟩
  · obtain ⟨a1, a2⟩ := hA.1 t1 (by omega)
    exact ⟨rd_ot (by omega) ((po_usI_ne e9).trans a1), (po_usI_ne e9).trans (rd_ot (by omega) a2)⟩
section LY
variable {vl : Nat → Nat} {y : ow_MS} {W C : Nat}
theorem u_X1_layOut_6 {x1 : Int32} {x2 : Int32} {x3 : Int32} {x4 : Int32} {x5 : Int32} {r0 : Nat} {t0 : Int32} {t1 : Int32} {t2 : Int32} {vl : Nat → Nat} {z : ow_MS} {Q : (Unit × (Nat → Nat) × ow_MS) → Prop} (H : Tt (fun K k => dm_X1_layOut_6 K (d_X1_layOut K k) x1 x2 x3 x4 x5 r0 t0 t1 t2 vl z) (gQ vl Q)) : Tt (fun K k => d_X1_layOut K k 6 x1 x2 x3 x4 x5 r0 t0 t1 t2 vl z) (gQ vl Q) := w_un (fun _ _ => rfl) (w_chV (Nat.le_refl _) H)
theorem tc_lay6 {d c : Nat} {ns : Nat → Nat} (hsz : ∀ h, smH (bkF ns (dgI d)) h 0 (2 ^ c) ≤ 1140) : ∀ (e i : Nat) (v : Nat → Nat) (z : ow_MS) (W' : Nat), i + e = 10 → vI v W' C → (∀ h, h < i → smH (bkF ns (dgI d)) h 0 (2 ^ c) ≤ W') → fr lyG y z → LyY z c ns (dgI d) → Tt (fun K k => d_X1_layOut K k 6 (nI d - 10) (nI i) 0 0 0 43000 0 0 0 v z) (gQ v (fun r => fr lyG y r.2.2 ∧ LyY r.2.2 c ns (dgI d) ∧ ∃ W', vI r.2.1 W' C ∧ ∀ h, h < 10 → smH (bkF ns (dgI d)) h 0 (2 ^ c) ≤ W')) := by
  intro e
  induction e with
  | zero =>
    intro i v z W' hi hv' hle hz hly
    have hv2 := hv'
    obtain ⟨h1, h2, h3, h4, h5, h6, h7, h8, h9, h0⟩ := hv'
    refine u_X1_layOut_6 ?_; unfold dm_X1_layOut_6
    rw [show uw_len (cX v) z (43000 + 9) = 10 from rfl]
    refine w_leT (a := 10) (b := i) (by omega) (by omega) (w_cs0 (tc_fillA (ch_43014.trans h4) (by omega)) ?_)
    rintro z1 ⟨-, f2⟩
    exact w_some ⟨Nat.le_refl _, fr_tr hz (fr_mono (fun g hg => by unfold lyG; omega) f2), LyY_fr f2 (by omega) hly, W', hv2, fun h hh => hle h (by omega)⟩
  | succ e ih =>
    intro i v z W' hi hv' hle hz hly
    refine u_X1_layOut_6 ?_; unfold dm_X1_layOut_6
    rw [show uw_len (cX v) z (43000 + 9) = 10 from rfl]
    refine w_leF (a := 10) (b := i) (by omega) (by omega) (w_crI ch_43009 rfl (by omega) (hly.2 i (by omega)) (w_dc1 (tc_makeRoom hv' (hsz i)) ?_))
    rintro x v1 z1 ⟨r1, r2, W2, r3, r4, r5⟩
    refine w_chV r1 ?_
    rw [nI_1]
    refine ih (i + 1) v1 z1 W2 (by omega) r3 (fun h hh => ?_) (fr_tr hz (fr_mono (fun g hg => by unfold lyG; omega) r2)) (LyY_fr r2 (by omega) hly)
    rcases Nat.lt_or_ge h i with h9 | h9
    · exact Nat.le_trans (hle h h9) r4
    · rw [show h = i by omega]
      exact r5
theorem u_X1_layOut_1 {x1 : Int32} {x2 : Int32} {x3 : Int32} {x4 : Int32} {x5 : Int32} {r0 : Nat} {t0 : Int32} {t1 : Int32} {t2 : Int32} {vl : Nat → Nat} {z : ow_MS} {Q : (Unit × (Nat → Nat) × ow_MS) → Prop} (H : Tt (fun K k => dm_X1_layOut_1 K (d_X1_layOut K k) x1 x2 x3 x4 x5 r0 t0 t1 t2 vl z) (gQ vl Q)) : Tt (fun K k => d_X1_layOut K k 1 x1 x2 x3 x4 x5 r0 t0 t1 t2 vl z) (gQ vl Q) := w_un (fun _ _ => rfl) (w_chV (Nat.le_refl _) H)
theorem u_X1_layOut_5 {x1 : Int32} {x2 : Int32} {x3 : Int32} {x4 : Int32} {x5 : Int32} {r0 : Nat} {t0 : Int32} {t1 : Int32} {t2 : Int32} {vl : Nat → Nat} {z : ow_MS} {Q : (Unit × (Nat → Nat) × ow_MS) → Prop} (H : Tt (fun K k => dm_X1_layOut_5 K (d_X1_layOut K k) x1 x2 x3 x4 x5 r0 t0 t1 t2 vl z) (gQ vl Q)) : Tt (fun K k => d_X1_layOut K k 5 x1 x2 x3 x4 x5 r0 t0 t1 t2 vl z) (gQ vl Q) := w_un (fun _ _ => rfl) (w_chV (Nat.le_refl _) H)
theorem u_X1_layOut_4 {x1 : Int32} {x2 : Int32} {x3 : Int32} {x4 : Int32} {x5 : Int32} {r0 : Nat} {t0 : Int32} {t1 : Int32} {t2 : Int32} {vl : Nat → Nat} {z : ow_MS} {Q : (Unit × (Nat → Nat) × ow_MS) → Prop} (H : Tt (fun K k => dm_X1_layOut_4 K (d_X1_layOut K k) x1 x2 x3 x4 x5 r0 t0 t1 t2 vl z) (gQ vl Q)) : Tt (fun K k => d_X1_layOut K k 4 x1 x2 x3 x4 x5 r0 t0 t1 t2 vl z) (gQ vl Q) := w_un (fun _ _ => rfl) (w_chV (Nat.le_refl _) H)
theorem u_X1_layOut_3 {x1 : Int32} {x2 : Int32} {x3 : Int32} {x4 : Int32} {x5 : Int32} {r0 : Nat} {t0 : Int32} {t1 : Int32} {t2 : Int32} {vl : Nat → Nat} {z : ow_MS} {Q : (Unit × (Nat → Nat) × ow_MS) → Prop} (H : Tt (fun K k => dm_X1_layOut_3 K (d_X1_layOut K k) x1 x2 x3 x4 x5 r0 t0 t1 t2 vl z) (gQ vl Q)) : Tt (fun K k => d_X1_layOut K k 3 x1 x2 x3 x4 x5 r0 t0 t1 t2 vl z) (gQ vl Q) := w_un (fun _ _ => rfl) (w_chV (Nat.le_refl _) H)
theorem u_X1_layOut_2 {x1 : Int32} {x2 : Int32} {x3 : Int32} {x4 : Int32} {x5 : Int32} {r0 : Nat} {t0 : Int32} {t1 : Int32} {t2 : Int32} {vl : Nat → Nat} {z : ow_MS} {Q : (Unit × (Nat → Nat) × ow_MS) → Prop} (H : Tt (fun K k => dm_X1_layOut_2 K (d_X1_layOut K k) x1 x2 x3 x4 x5 r0 t0 t1 t2 vl z) (gQ vl Q)) : Tt (fun K k => d_X1_layOut K k 2 x1 x2 x3 x4 x5 r0 t0 t1 t2 vl z) (gQ vl Q) := w_un (fun _ _ => rfl) (w_chV (Nat.le_refl _) H)
theorem e_X1_layOut {r0 : Nat} {x1 : Int32} {vl : Nat → Nat} {z : ow_MS} {Q : (Unit × (Nat → Nat) × ow_MS) → Prop} (H : Tt (fun K k => d_X1_layOut K k 0 x1 0 0 0 0 r0 0 0 0 vl z) Q) : Te (fun K => de_X1_layOut K r0 x1 vl z) Q := w_te H
theorem u_X1_layOut_0 {x1 : Int32} {x2 : Int32} {x3 : Int32} {x4 : Int32} {x5 : Int32} {r0 : Nat} {t0 : Int32} {t1 : Int32} {t2 : Int32} {vl : Nat → Nat} {z : ow_MS} {Q : (Unit × (Nat → Nat) × ow_MS) → Prop} (H : Tt (fun K k => dm_X1_layOut_0 K (d_X1_layOut K k) x1 x2 x3 x4 x5 r0 t0 t1 t2 vl z) (gQ vl Q)) : Tt (fun K k => d_X1_layOut K k 0 x1 x2 x3 x4 x5 r0 t0 t1 t2 vl z) (gQ vl Q) := w_un (fun _ _ => rfl) (w_chV (Nat.le_refl _) H)
theorem tc_layOut {d c ci : Nat} {S : ow_NP} {G : Nat → Int32} {Ls : Nat → Nat → Nat} {ns : Nat → Nat} (hv : vI vl W C) (hy : cAt y 44000 (c, ci, S, G)) (hc : c ≤ 8) (hd : d < 29) (hL : LpY y S G c Ls ns) (hch : chP y) (hsz : ∀ h, smH (bkF ns (dgI d)) h 0 (2 ^ c) ≤ 1140) : Te (fun K => de_X1_layOut K 43000 (nI d - 10) vl y) (gQ vl (fun r => fr lyG y r.2.2 ∧ LyY r.2.2 c ns (dgI d) ∧ ∃ W', vI r.2.1 W' C ∧ ∀ h, h < 10 → smH (bkF ns (dgI d)) h 0 (2 ^ c) ≤ W')) := by
  let Q : Unit × (Nat → Nat) × ow_MS → Prop := fun r => fr lyG y r.2.2 ∧ LyY r.2.2 c ns (dgI d) ∧ ∃ W', vI r.2.1 W' C ∧ ∀ h, h < 10 → smH (bkF ns (dgI d)) h 0 (2 ^ c) ≤ W'
  have h256 : 2 ^ c ≤ 256 := two_mono (b := 8) hc
  have c6 := tc_lay6 (y := y) (C := C) hsz
  have c1 : ∀ (e s : Nat) (z : ow_MS), s + e = 2 ^ c → fr lyG y z → lyA z ns (dgI d) s → Tt (fun K k => d_X1_layOut K k 1 (nI d - 10) (nI s) 0 0 0 43000 0 0 0 vl z) (gQ vl Q) := by
    intro e
    induction e with
    | zero =>
      intro s z hs hz hA
      have hz4 : cAt z 44000 (c, ci, S, G) := cAt_fr hz (fun g hg h9 => by unfold cP at hg; unfold lyG at h9; omega) hy
      refine u_X1_layOut_1 ?_; unfold dm_X1_layOut_1
      refine w_rdF hz4.1 ?_
      rw [shl1 (by omega)]
      refine w_leT (a := 2 ^ c) (b := s) (by omega) (by omega) (c6 10 0 vl z W rfl hv (fun h hh => absurd hh (Nat.not_lt_zero _)) hz ?_)
      rw [show s = 2 ^ c by omega] at hA
      exact hA
    | succ e ih =>
      intro s z hs hz hA
      have hz4 : cAt z 44000 (c, ci, S, G) := cAt_fr hz (fun g hg h9 => by unfold cP at hg; unfold lyG at h9; omega) hy
      have hsc : s < 2 ^ c := by omega
      have hns := (hL s hsc).2
      have hps := pc_le (c := c) hsc
      have e3 : ∀ z1, fr lyG y z1 → z1.2.1 43003 s = nI (ns s) := fun z1 h1 => by
        rw [(h1 43003 (by unfold lyG; omega)).2.1]
        exact (hL s hsc).1.2.1
      generalize ht : nI (ns s) + (nI d - 10) - nI (pc s) = t
      -- the end of a state
      have c5 : ∀ (x5 : Int32) (b : Nat) (z1 : ow_MS), fr lyG y z1 → b = bkF ns (dgI d) s → (∀ t, t < s + 1 → z1.2.1 43007 t = oM (kpF (ns t) (pc t) (dgI d)) ∧ z1.2.1 43008 t = nI (smH (bkF ns (dgI d)) (pc t) 0 t)) → (∀ h, h < 10 → z1.2.1 43009 h = nI (smH (bkF ns (dgI d)) h 0 s)) → Tt (fun K k => d_X1_layOut K k 5 (nI d - 10) (nI s) (nI (pc s)) t x5 43000 (nI b) (nI (smH (bkF ns (dgI d)) (pc s) 0 s)) (nI (pc s)) vl z1) (gQ vl Q) := by
        intro x5 b z1 hz1 hb g1 g2
        refine u_X1_layOut_5 ?_; unfold dm_X1_layOut_5
        rw [nI_add, nI_1]
        exact w_ctI ch_43009 rfl (by omega) (ih (s + 1) _ (by omega) (fr_I2 hz1 lyG9) (lyA_st hb g1 g2))
      have c4 : ∀ (x5 t0 : Int32), t0 = oM (kpF (ns s) (pc s) (dgI d)) → (kpF (ns s) (pc s) (dgI d) = none ∧ x5 = 0 ∨ ∃ k, kpF (ns s) (pc s) (dgI d) = some k ∧ x5 = 1 ∧ t / 2 = nI k) → Tt (fun K k => d_X1_layOut K k 4 (nI d - 10) (nI s) (nI (pc s)) t x5 43000 t0 (nI s) 0 vl z) (gQ vl Q) := by
        intro x5 t0 h0 hk
        refine u_X1_layOut_4 ?_; unfold dm_X1_layOut_4
        have g9 : z.2.1 43009 (pc s) = nI (smH (bkF ns (dgI d)) (pc s) 0 s) := hA.2 _ (by omega)
        refine w_ctI ch_43007 rfl (by omega) (w_crI ch_43009 rfl (show pc s < 10 by omega) (rd_ot (by omega) g9) (w_ctI ch_43008 rfl (by omega) (w_crI ch_43009 rfl (show pc s < 10 by omega) (rd_ot (by omega) (rd_ot (by omega) g9)) ?_)))
        have hf : fr lyG y (usI (usI z (43000 + 7) s t0) (43000 + 8) s (nI (smH (bkF ns (dgI d)) (pc s) 0 s))) := fr_I2 (fr_I2 hz lyG7) lyG8
        obtain ⟨k1, k2⟩ := lyA_pr h0 hA
        rcases hk with ⟨hn, rfl⟩ | ⟨k, hk, rfl, hk2⟩
        · refine w_ifT rfl (c5 0 0 _ hf ?_ k1 k2)
          unfold bkF
          rw [hn]
        · have hkn := kpF_le hk
          refine w_ifF (by decide) (w_crI ch_43003 rfl (by omega) (e3 _ hf) (w_crX rfl (show ns s < 11 by omega) (w_nzI (by decide) ?_)))
          rw [hk2]
          refine w_crI (ch_450 (show ns s < 11 by omega)) rfl (show k < 11 by omega) ?_ (c5 1 (biN (ns s) k) _ hf ?_ k1 k2)
          · show (usI (usI z (43000 + 7) s t0) (43000 + 8) s (nI (smH (bkF ns (dgI d)) (pc s) 0 s))).2.1 (45001 + ns s) k = _
            rw [(hf (45001 + ns s) (by unfold lyG; omega)).2.1]
            exact hch (ns s) k (by omega) hkn
          · unfold bkF
            rw [hk]
      have c3a : kpF (ns s) (pc s) (dgI d) = none → Tt (fun K k => d_X1_layOut K k 3 (nI d - 10) (nI s) (nI (pc s)) t 0 43000 0 0 0 vl z) (gQ vl Q) := by
        intro hn
        refine u_X1_layOut_3 ?_; unfold dm_X1_layOut_3
        exact w_ifT rfl (c4 0 (-1) (by rw [hn]; rfl) (Or.inl ⟨hn, rfl⟩))
      have c2 : kpF (ns s) (pc s) (dgI d) = none → Tt (fun K k => d_X1_layOut K k 2 (nI d - 10) (nI s) (nI (pc s)) t 0 43000 0 0 0 vl z) (gQ vl Q) := by
        intro hn
        refine u_X1_layOut_2 ?_; unfold dm_X1_layOut_2
        exact c3a hn
      refine u_X1_layOut_1 ?_; unfold dm_X1_layOut_1
      refine w_rdF hz4.1 ?_
      rw [shl1 (by omega), bc_pc (show s < 4096 by omega)]
      refine w_leF (a := 2 ^ c) (b := s) (by omega) (by omega) (w_crI ch_43003 rfl (by omega) (e3 z hz) ?_)
      rw [ht]
      cases hk : kpF (ns s) (pc s) (dgI d) with
      | none =>
        have h9 := lk_A ⟨ns s, by omega⟩ ⟨pc s, by omega⟩ ⟨d, hd⟩ hk
        dsimp only at h9
        rw [ht] at h9
        refine w_if (fun a1 => w_if (fun _ => c2 hk) (fun a2 => w_crI ch_43003 rfl (by omega) (e3 z hz) (w_ifT ?_ (c2 hk)))) (fun _ => c2 hk)
        rcases h9 with h9 | h9 | h9
        · exact absurd a1 h9
        · exact absurd h9 a2
        · exact h9
      | some k =>
        have hkn := kpF_le hk
        obtain ⟨b1, b2, b3, b4⟩ := lk_B ⟨ns s, by omega⟩ ⟨pc s, by omega⟩ ⟨d, hd⟩ ⟨k, by omega⟩ hk
        dsimp only at b1 b2 b3 b4
        rw [ht] at b1 b2 b3 b4
        refine w_ifT b1 (w_ifF b2 (w_crI ch_43003 rfl (by omega) (e3 z hz) (w_ifF b3 ?_)))
        refine u_X1_layOut_3 ?_; unfold dm_X1_layOut_3
        refine w_ifF (by decide) (w_nzI (by decide) (c4 1 (t / 2) ?_ (Or.inr ⟨k, hk, rfl, b4⟩)))
        rw [hk, b4]
        rfl
  refine e_X1_layOut ?_
  refine u_X1_layOut_0 ?_; unfold dm_X1_layOut_0
  refine w_cs0 (tc_fillA (l := 10) rfl (by omega)) ?_
  rintro z1 ⟨f1, f2⟩
  exact c1 (2 ^ c) 0 z1 (by omega) (fr_mono (fun g hg => by unfold lyG; omega) f2) ⟨fun t ht => absurd ht (Nat.not_lt_zero _), fun h hh => f1 h hh⟩
def rkG (g : Nat) : Prop := lyG g ∨ kpG g ∨ g = 43018
theorem ix_56 : ∀ o : Fin 9, ∀ d : Fin 29, nI o.val * 56 + (nI d.val - 10) - (-20) = nI (56 * o.val + d.val + 10) := by decide +kernel
theorem u_X1_rankDegree_1 {x1 : Int32} {x2 : Int32} {x3 : Int32} {x4 : Int32} {x5 : Int32} {r0 : Nat} {t0 : Int32} {t1 : Int32} {vl : Nat → Nat} {z : ow_MS} {Q : (Unit × (Nat → Nat) × ow_MS) → Prop} (H : Tt (fun K k => dm_X1_rankDegree_1 K (d_X1_rankDegree K k) x1 x2 x3 x4 x5 r0 t0 t1 vl z) (gQ vl Q)) : Tt (fun K k => d_X1_rankDegree K k 1 x1 x2 x3 x4 x5 r0 t0 t1 vl z) (gQ vl Q) := w_un (fun _ _ => rfl) (w_chV (Nat.le_refl _) H)
theorem u_X1_rankDegree_3 {x1 : Int32} {x2 : Int32} {x3 : Int32} {x4 : Int32} {x5 : Int32} {r0 : Nat} {t0 : Int32} {t1 : Int32} {vl : Nat → Nat} {z : ow_MS} {Q : (Unit × (Nat → Nat) × ow_MS) → Prop} (H : Tt (fun K k => dm_X1_rankDegree_3 K (d_X1_rankDegree K k) x1 x2 x3 x4 x5 r0 t0 t1 vl z) (gQ vl Q)) : Tt (fun K k => d_X1_rankDegree K k 3 x1 x2 x3 x4 x5 r0 t0 t1 vl z) (gQ vl Q) := w_un (fun _ _ => rfl) (w_chV (Nat.le_refl _) H)
theorem u_X1_rankDegree_5 {x1 : Int32} {x2 : Int32} {x3 : Int32} {x4 : Int32} {x5 : Int32} {r0 : Nat} {t0 : Int32} {t1 : Int32} {vl : Nat → Nat} {z : ow_MS} {Q : (Unit × (Nat → Nat) × ow_MS) → Prop} (H : Tt (fun K k => dm_X1_rankDegree_5 K (d_X1_rankDegree K k) x1 x2 x3 x4 x5 r0 t0 t1 vl z) (gQ vl Q)) : Tt (fun K k => d_X1_rankDegree K k 5 x1 x2 x3 x4 x5 r0 t0 t1 vl z) (gQ vl Q) := w_un (fun _ _ => rfl) (w_chV (Nat.le_refl _) H)
theorem u_X1_rankDegree_4 {x1 : Int32} {x2 : Int32} {x3 : Int32} {x4 : Int32} {x5 : Int32} {r0 : Nat} {t0 : Int32} {t1 : Int32} {vl : Nat → Nat} {z : ow_MS} {Q : (Unit × (Nat → Nat) × ow_MS) → Prop} (H : Tt (fun K k => dm_X1_rankDegree_4 K (d_X1_rankDegree K k) x1 x2 x3 x4 x5 r0 t0 t1 vl z) (gQ vl Q)) : Tt (fun K k => d_X1_rankDegree K k 4 x1 x2 x3 x4 x5 r0 t0 t1 vl z) (gQ vl Q) := w_un (fun _ _ => rfl) (w_chV (Nat.le_refl _) H)
theorem u_X1_rankDegree_2 {x1 : Int32} {x2 : Int32} {x3 : Int32} {x4 : Int32} {x5 : Int32} {r0 : Nat} {t0 : Int32} {t1 : Int32} {vl : Nat → Nat} {z : ow_MS} {Q : (Unit × (Nat → Nat) × ow_MS) → Prop} (H : Tt (fun K k => dm_X1_rankDegree_2 K (d_X1_rankDegree K k) x1 x2 x3 x4 x5 r0 t0 t1 vl z) (gQ vl Q)) : Tt (fun K k => d_X1_rankDegree K k 2 x1 x2 x3 x4 x5 r0 t0 t1 vl z) (gQ vl Q) := w_un (fun _ _ => rfl) (w_chV (Nat.le_refl _) H)
theorem e_X1_rankDegree {r0 : Nat} {x1 : Int32} {vl : Nat → Nat} {z : ow_MS} {Q : (Unit × (Nat → Nat) × ow_MS) → Prop} (H : Tt (fun K k => d_X1_rankDegree K k 0 x1 0 0 0 0 r0 0 0 vl z) Q) : Te (fun K => de_X1_rankDegree K r0 x1 vl z) Q := w_te H
theorem u_X1_rankDegree_0 {x1 : Int32} {x2 : Int32} {x3 : Int32} {x4 : Int32} {x5 : Int32} {r0 : Nat} {t0 : Int32} {t1 : Int32} {vl : Nat → Nat} {z : ow_MS} {Q : (Unit × (Nat → Nat) × ow_MS) → Prop} (H : Tt (fun K k => dm_X1_rankDegree_0 K (d_X1_rankDegree K k) x1 x2 x3 x4 x5 r0 t0 t1 vl z) (gQ vl Q)) : Tt (fun K k => d_X1_rankDegree K k 0 x1 x2 x3 x4 x5 r0 t0 t1 vl z) (gQ vl Q) := w_un (fun _ _ => rfl) (w_chV (Nat.le_refl _) H)
theorem tc_rankDegree {d p c ci : Nat} {S : ow_NP} {G : Nat → Int32} {Ls : Nat → Nat → Nat} {ns : Nat → Nat} {wf : Nat → Bool} (hv : vI vl W C) (hy : cAt y 44000 (c, ci, S, G)) (hvn : vn c S) (hc : c ≤ 8) (hd : d < 29) (hwf : gaO c S wf) (hL : LpY y S G c Ls ns) (htb : tbP y) (hch : chP y) (h10 : y.1 43010 = nI p) (hp1 : 2 ≤ p) (hp2 : p ≤ 997) (hsz : ∀ h, smH (bkF ns (dgI d)) h 0 (2 ^ c) ≤ 1140) : Te (fun K => de_X1_rankDegree K 43000 (nI d - 10) vl y) (gQ vl (fun r => fr rkG y r.2.2 ∧ ∃ W' C', vI r.2.1 W' C')) := by
  let Q : Unit × (Nat → Nat) × ow_MS → Prop := fun r => fr rkG y r.2.2 ∧ ∃ W' C', vI r.2.1 W' C'
  have c1 : ∀ (W' : Nat), (∀ h, h < 10 → smH (bkF ns (dgI d)) h 0 (2 ^ c) ≤ W') → ∀ (e o : Nat) (x2 : Int32) (v : Nat → Nat) (z : ow_MS) (C' : Nat), o + e = c + 1 → vI v W' C' → fr rkG y z → LyY z c ns (dgI d) → Tt (fun K k => d_X1_rankDegree K k 1 (nI d - 10) x2 (nI o) 0 0 43000 0 0 v z) (gQ v Q) := by
    intro W' hle e
    induction e with
    | zero =>
      intro o x2 v z C' ho hv' hz hly
      have hz4 : cAt z 44000 (c, ci, S, G) := cAt_fr hz (fun g hg h9 => by unfold cP at hg; unfold rkG lyG kpG at h9; omega) hy
      refine u_X1_rankDegree_1 ?_; unfold dm_X1_rankDegree_1
      exact w_rdF hz4.1 (w_ltT (a := c) (b := o) (by omega) (by omega) (w_some ⟨Nat.le_refl _, hz, W', C', hv'⟩))
    | succ e ih =>
      intro o x2 v z C' ho hv' hz hly
      have hz4 : cAt z 44000 (c, ci, S, G) := cAt_fr hz (fun g hg h9 => by unfold cP at hg; unfold rkG lyG kpG at h9; omega) hy
      generalize hw : smH (bkF ns (dgI d)) (o + 1) 0 (2 ^ c) = w
      have hw1 : w ≤ 1140 := by rw [← hw]; exact hsz _
      have hwW : w ≤ W' := by rw [← hw]; exact hle _ (by omega)
      have c3 : ∀ (e2 i : Nat) (x2 x4 : Int32) (v : Nat → Nat) (z : ow_MS) (C' : Nat), i + e2 = w → vI v W' C' → fr rkG y z → LyY z c ns (dgI d) → Tt (fun K k => d_X1_rankDegree K k 3 (nI d - 10) x2 (nI o) x4 (nI i) 43000 0 0 v z) (gQ v Q) := by
        intro e2
        induction e2 with
        | zero =>
          intro i x2 x4 v z C' hi hv' hz hly
          refine u_X1_rankDegree_3 ?_; unfold dm_X1_rankDegree_3
          rw [nI_1]
          exact w_crI ch_43009 rfl (by omega) ((hly.2 (o + 1) (by omega)).trans (by rw [hw])) (w_leT (a := w) (b := i) (by omega) (by omega) (ih (o + 1) _ v z C' (by omega) hv' hz hly))
        | succ e2 ih2 =>
          intro i x2 x4 v z C' hi hv' hz hly
          have hv2 := hv'
          obtain ⟨h1, h2, h3, h4, h5, h6, h7, h8, h9, h0⟩ := hv'
          have c5 : ∀ t0 : Int32, Tt (fun K k => d_X1_rankDegree K k 5 (nI d - 10) x2 (nI o) x4 (nI i) 43000 t0 (nI i) v z) (gQ v Q) := by
            intro t0
            refine u_X1_rankDegree_5 ?_; unfold dm_X1_rankDegree_5
            rw [nI_1]
            exact w_ctI (ch_43014.trans h4) rfl (by omega) (ih2 (i + 1) _ _ v _ C' (by omega) hv2 (fr_I2 hz (by unfold rkG lyG; omega)) (LyY_fr (fr_I (P := fun g => g = 43014) rfl) (by omega) hly))
          have c4 : Tt (fun K k => d_X1_rankDegree K k 4 (nI d - 10) x2 (nI o) x4 (nI i) 43000 (nI i) 0 v z) (gQ v Q) := by
            refine u_X1_rankDegree_4 ?_; unfold dm_X1_rankDegree_4
            exact c5 0
          refine u_X1_rankDegree_3 ?_; unfold dm_X1_rankDegree_3
          rw [nI_1]
          exact w_crI ch_43009 rfl (by omega) ((hly.2 (o + 1) (by omega)).trans (by rw [hw])) (w_leF (a := w) (b := i) (by omega) (by omega) (w_if (fun _ => c4) (fun _ => w_crI (ch_43012.trans h2) rfl (by omega) rfl (w_if (fun _ => c4) (fun _ => c5 1)))))
      have c2 : ∀ (x4 : Int32) (v : Nat → Nat) (z : ow_MS) (C' : Nat), vI v W' C' → fr rkG y z → LyY z c ns (dgI d) → Tt (fun K k => d_X1_rankDegree K k 2 (nI d - 10) x2 (nI o) x4 0 43000 0 0 v z) (gQ v Q) := by
        intro x4 v z C' hv' hz hly
        refine u_X1_rankDegree_2 ?_; unfold dm_X1_rankDegree_2
        rw [ix_56 ⟨o, by omega⟩ ⟨d, hd⟩]
        exact w_crI ch_43009 rfl (by omega) rfl (w_ctI ch_43018 rfl (by dsimp only; omega) (c3 w 0 _ _ v _ C' (by omega) hv' (fr_I2 hz (by unfold rkG; omega)) (LyY_fr (fr_I (P := fun g => g = 43018) rfl) (by omega) hly)))
      have ep : z.1 43010 = nI p := ((hz 43010 (by unfold rkG lyG kpG; omega)).1).trans h10
      refine u_X1_rankDegree_1 ?_; unfold dm_X1_rankDegree_1
      rw [nI_1]
      refine w_rdF hz4.1 (w_ltF (a := c) (b := o) (by omega) (by omega) (w_crI ch_43009 rfl (by omega) rfl (w_if (fun _ => c2 _ v z C' hv' hz hly) (fun _ => w_crI ch_43009 rfl (by omega) rfl (w_if (fun _ => c2 _ v z C' hv' hz hly) (fun _ => ?_))))))
      refine w_dc1 (tc_eliminate hv' hz4 hvn hc hwf (LpY_fr hz (by unfold rkG lyG kpG; omega) hL) hly (tbP_fr hz (by unfold rkG lyG kpG; omega) htb) (by omega) ep hp1 hp2 (fun h => ⟨hsz h, hle h⟩)) ?_
      rintro x v1 z1 ⟨r1, r2, C2, r3⟩
      exact w_chV r1 (c2 _ v1 z1 C2 r3 (fr_tr hz (fr_mono (fun g hg => Or.inr (Or.inl hg)) r2)) (LyY_fr r2 (by unfold kpG; omega) hly))
  refine e_X1_rankDegree ?_
  refine u_X1_rankDegree_0 ?_; unfold dm_X1_rankDegree_0
  refine w_dc1 (tc_layOut hv hy hc hd hL hch hsz) ?_
  rintro x v1 z1 ⟨r1, r2, r3, W2, r4, r5⟩
  exact w_chV r1 (c1 W2 r5 (c + 1) 0 _ v1 z1 C (by omega) r4 (fr_mono (fun g hg => Or.inl hg) r2) r3)
end LY
