/-! the class: unfold has an answer -/
abbrev lv (L : Nat) : Nat := 24000 + 2000 + 1000 * L
theorem lv_nH {L : Nat} (h : L ≤ 12) : nH (lv L) := by
  have key : ∀ L, L < 13 → lv L ∈ nHL := by decide
  exact key L (by omega)
theorem uf_bits : ∀ v : Fin 24, (nI v.val >>> ((1 : Int32) &&& 31)) = nI (v.val / 2) ∧ nI v.val ^^^ 1 = nI (mt v.val) := by decide +kernel
def nvL (L : Nat) (T : ow_NT) : Prop := vn T.1 T.2.2.1 ∧ T.1 ≤ 12 ∧ ow_b24 T.2.2.1 ∧ T.2.1 ≤ 6 + 2 * L
theorem nvL_flip {L x : Nat} {T : ow_NT} {G : Nat → Int32} (h : nvL L T) (hx : x < T.1) : nvL L (T.1, T.2.1, np_swap T.2.2.1 (2 * x) (2 * x + 1), G) := by
  obtain ⟨h1, h2, h3, h4⟩ := h
  exact ⟨vD_vn.mp (vD_swap (vD_vn.mpr h1) (by omega) (by omega)), h2, np_swap_b24 h3 (by omega) (by omega), h4⟩
theorem nvL_sm {L x : Nat} {Q R : ow_NT} (h : nvL L R) (hQ : ow_b24 Q.2.2.1) (hx : x < R.1) : nvL (L + 1) (nt_rm (ntS (nt_copy Q R) (np_exchange (nt_copy Q R).2.2.1 (2 * x) (2 * x + 1))) x) := by
  obtain ⟨h1, h2, h3, h4⟩ := h
  have v1 := vn_copy (Q := Q) h1
  have b1 := nt_copy_b24 hQ h3
  have v2 := vn_exchange v1 (show 2 * x < 2 * R.1 by omega) (show 2 * x + 1 < 2 * R.1 by omega)
  have b2 := b24_exchange b1 (show 2 * x < 24 by omega) (show 2 * x + 1 < 24 by omega)
  generalize hS : np_exchange (nt_copy Q R).2.2.1 (2 * x) (2 * x + 1) = S at *
  obtain ⟨c1, hc1⟩ : ∃ c1, R.1 = c1 + 1 := ⟨R.1 - 1, by omega⟩
  refine ⟨?_, ?_, np_rmS_b24 b2 (by omega), ?_⟩
  · show vn (R.1 - 1) (np_rmS S x (R.1 - 1))
    rw [hc1] at v2 ⊢
    exact vn_rm v2 (by omega)
  · show R.1 - 1 ≤ 12
    omega
  · show np_rmN S x R.2.1 ≤ 6 + 2 * (L + 1)
    unfold np_rmN np_cutN
    split <;> split <;> omega
def lvS (z : ow_MS) : Prop := ∀ j, j ≤ 12 → ∃ T, cAt z (lv j) T ∧ ow_b24 T.2.2.1
def unP (L g : Nat) : Prop := g = 24003 ∨ g = 24004 ∨ 26001 + 1000 * L ≤ g ∧ g ≤ 38011
theorem lvS_fr {P : Nat → Prop} {y z : ow_MS} {L : Nat} (hf : fr P y z) (hP : ∀ g, P g → lv L + 1 ≤ g ∧ g ≤ lv L + 11 ∨ g < 26000) (hT : ∃ T, cAt z (lv L) T ∧ ow_b24 T.2.2.1) (h : lvS y) : lvS z := by
  intro j hj
  by_cases e : j = L
  · rw [e]
    exact hT
  · obtain ⟨T, t1, t2⟩ := h j hj
    refine ⟨T, cAt_fr hf (fun g hg h9 => ?_) t1, t2⟩
    have := hP g h9
    unfold cP at hg
    unfold lv at hg this
    omega
theorem cP_in {h g : Nat} (hg : cP h g) : h + 1 ≤ g ∧ g ≤ h + 11 := by
  unfold cP at hg
  omega
section CUN
variable {vl : Nat → Nat} {y : ow_MS} {f xp : Int32}
theorem w_cdU {dd r0 : Nat} {x1 x2 x3 x4 : Int32} {z : ow_MS} {Q : ow_MS → Prop} (H : Tt (fun K k => c_X8_unfold vl K (cd0_X8_unfold vl K dd) k 0 x1 x2 x3 x4 0 0 0 0 0 0 0 0 0 0 r0 0 z) Q) : Te (fun K => cd0_X8_unfold vl K (dd + 1) r0 x1 x2 x3 x4 z) Q := w_te H
theorem u_X8_unfold_1 {dd : Nat} {vl : Nat → Nat} {x1 : Int32} {x2 : Int32} {x3 : Int32} {x4 : Int32} {x6 : Int32} {x7 : Int32} {x8 : Int32} {x9 : Int32} {x10 : Int32} {x11 : Int32} {x12 : Int32} {x13 : Int32} {x14 : Int32} {x15 : Int32} {r0 : Nat} {r5 : Nat} {z : ow_MS} {Q : ow_MS → Prop} (H : Tt (fun K k => cm_X8_unfold_1 vl K (cd0_X8_unfold vl K dd) (c_X8_unfold vl K (cd0_X8_unfold vl K dd) k) x1 x2 x3 x4 x6 x7 x8 x9 x10 x11 x12 x13 x14 x15 r0 r5 z) Q) : Tt (fun K k => c_X8_unfold vl K (cd0_X8_unfold vl K dd) k 1 x1 x2 x3 x4 x6 x7 x8 x9 x10 x11 x12 x13 x14 x15 r0 r5 z) Q := w_un (fun _ _ => rfl) H
theorem u_X8_unfold_5 {dd : Nat} {vl : Nat → Nat} {x1 : Int32} {x2 : Int32} {x3 : Int32} {x4 : Int32} {x6 : Int32} {x7 : Int32} {x8 : Int32} {x9 : Int32} {x10 : Int32} {x11 : Int32} {x12 : Int32} {x13 : Int32} {x14 : Int32} {x15 : Int32} {r0 : Nat} {r5 : Nat} {z : ow_MS} {Q : ow_MS → Prop} (H : Tt (fun K k => cm_X8_unfold_5 vl K (cd0_X8_unfold vl K dd) (c_X8_unfold vl K (cd0_X8_unfold vl K dd) k) x1 x2 x3 x4 x6 x7 x8 x9 x10 x11 x12 x13 x14 x15 r0 r5 z) Q) : Tt (fun K k => c_X8_unfold vl K (cd0_X8_unfold vl K dd) k 5 x1 x2 x3 x4 x6 x7 x8 x9 x10 x11 x12 x13 x14 x15 r0 r5 z) Q := w_un (fun _ _ => rfl) H
theorem u_X8_unfold_2 {dd : Nat} {vl : Nat → Nat} {x1 : Int32} {x2 : Int32} {x3 : Int32} {x4 : Int32} {x6 : Int32} {x7 : Int32} {x8 : Int32} {x9 : Int32} {x10 : Int32} {x11 : Int32} {x12 : Int32} {x13 : Int32} {x14 : Int32} {x15 : Int32} {r0 : Nat} {r5 : Nat} {z : ow_MS} {Q : ow_MS → Prop} (H : Tt (fun K k => cm_X8_unfold_2 vl K (cd0_X8_unfold vl K dd) (c_X8_unfold vl K (cd0_X8_unfold vl K dd) k) x1 x2 x3 x4 x6 x7 x8 x9 x10 x11 x12 x13 x14 x15 r0 r5 z) Q) : Tt (fun K k => c_X8_unfold vl K (cd0_X8_unfold vl K dd) k 2 x1 x2 x3 x4 x6 x7 x8 x9 x10 x11 x12 x13 x14 x15 r0 r5 z) Q := w_un (fun _ _ => rfl) H
theorem u_X8_unfold_4 {dd : Nat} {vl : Nat → Nat} {x1 : Int32} {x2 : Int32} {x3 : Int32} {x4 : Int32} {x6 : Int32} {x7 : Int32} {x8 : Int32} {x9 : Int32} {x10 : Int32} {x11 : Int32} {x12 : Int32} {x13 : Int32} {x14 : Int32} {x15 : Int32} {r0 : Nat} {r5 : Nat} {z : ow_MS} {Q : ow_MS → Prop} (H : Tt (fun K k => cm_X8_unfold_4 vl K (cd0_X8_unfold vl K dd) (c_X8_unfold vl K (cd0_X8_unfold vl K dd) k) x1 x2 x3 x4 x6 x7 x8 x9 x10 x11 x12 x13 x14 x15 r0 r5 z) Q) : Tt (fun K k => c_X8_unfold vl K (cd0_X8_unfold vl K dd) k 4 x1 x2 x3 x4 x6 x7 x8 x9 x10 x11 x12 x13 x14 x15 r0 r5 z) Q := w_un (fun _ _ => rfl) H
theorem u_X8_unfold_3 {dd : Nat} {vl : Nat → Nat} {x1 : Int32} {x2 : Int32} {x3 : Int32} {x4 : Int32} {x6 : Int32} {x7 : Int32} {x8 : Int32} {x9 : Int32} {x10 : Int32} {x11 : Int32} {x12 : Int32} {x13 : Int32} {x14 : Int32} {x15 : Int32} {r0 : Nat} {r5 : Nat} {z : ow_MS} {Q : ow_MS → Prop} (H : Tt (fun K k => cm_X8_unfold_3 vl K (cd0_X8_unfold vl K dd) (c_X8_unfold vl K (cd0_X8_unfold vl K dd) k) x1 x2 x3 x4 x6 x7 x8 x9 x10 x11 x12 x13 x14 x15 r0 r5 z) Q) : Tt (fun K k => c_X8_unfold vl K (cd0_X8_unfold vl K dd) k 3 x1 x2 x3 x4 x6 x7 x8 x9 x10 x11 x12 x13 x14 x15 r0 r5 z) Q := w_un (fun _ _ => rfl) H
theorem u_X8_unfold_0 {dd : Nat} {vl : Nat → Nat} {x1 : Int32} {x2 : Int32} {x3 : Int32} {x4 : Int32} {x6 : Int32} {x7 : Int32} {x8 : Int32} {x9 : Int32} {x10 : Int32} {x11 : Int32} {x12 : Int32} {x13 : Int32} {x14 : Int32} {x15 : Int32} {r0 : Nat} {r5 : Nat} {z : ow_MS} {Q : ow_MS → Prop} (H : Tt (fun K k => cm_X8_unfold_0 vl K (cd0_X8_unfold vl K dd) (c_X8_unfold vl K (cd0_X8_unfold vl K dd) k) x1 x2 x3 x4 x6 x7 x8 x9 x10 x11 x12 x13 x14 x15 r0 r5 z) Q) : Tt (fun K k => c_X8_unfold vl K (cd0_X8_unfold vl K dd) k 0 x1 x2 x3 x4 x6 x7 x8 x9 x10 x11 x12 x13 x14 x15 r0 r5 z) Q := w_un (fun _ _ => rfl) H
theorem tc_unfS {L dd : Nat} {T : ow_NT} (hL : L ≤ 12) (hself : L < 12 → ∀ (R : ow_NT) (f xp : Int32) (z : ow_MS), lvS z → cAt z (lv (L + 1)) R → nvL (L + 1) R → Te (fun K => cd0_X8_unfold vl K dd 24000 (nI (L + 1)) f xp (nI (L + 1)) z) (fun z1 => lvS z1 ∧ fr (unP (L + 1)) z z1)) (h0 : lvS y) (hT : cAt y (lv L) T) (hv : nvL L T) : Te (fun K => cd0_X8_unfold vl K (dd + 1) 24000 (nI L) f xp (nI L) y) (fun z1 => lvS z1 ∧ fr (unP L) y z1) := by
  have hh := lv_nH hL
  obtain ⟨c, hc⟩ : ∃ c, T.1 = c := ⟨_, rfl⟩
  have c12 : c ≤ 12 := hc ▸ hv.2.1
  let Q : ow_MS → Prop := fun z1 => lvS z1 ∧ fr (unP L) y z1
  let J : ow_MS → ow_NT → Prop := fun z R => lvS z ∧ cAt z (lv L) R ∧ nvL L R ∧ R.1 = c ∧ fr (unP L) y z
  have c1 : ∀ (d s r : Nat) (pw me go : Int32) (z : ow_MS) (R : ow_NT), s + d = 2 * c → r ≤ s → J z R → Tt (fun K t => c_X8_unfold vl K (cd0_X8_unfold vl K dd) t 1 (nI L) f xp (nI L) (nI (2 * c)) pw me go (nI r) (nI s) 0 0 0 0 24000 (lv L) z) Q := by
    intro d
    induction d with
    | zero =>
      rintro s r pw me go z R hs hr ⟨j1, j2, j3, j4, j5⟩
      have jc := j3.2.2.2
      refine u_X8_unfold_1 ?_; unfold cm_X8_unfold_1
      refine w_leT (by omega) (by omega) (w_rdF j2.2.1 ?_)
      rw [nI_add]
      refine w_cs0 (tc_addCircles (show r + R.2.1 < 100 by omega) hL) ?_
      rintro z1 f1
      exact w_some ⟨fun j hj => by
        obtain ⟨T1, t1, t2⟩ := j1 j hj
        exact ⟨T1, cAt_fr f1 (fun g hg h9 => by unfold cP lv at hg; unfold acP at h9; omega) t1, t2⟩, fr_tr j5 (fr_mono (fun g hg => by unfold acP at hg; unfold unP; omega) f1)⟩
    | succ d ih =>
      rintro s r pw me go z R hs hr hJ
      have c5 : ∀ (r : Nat) (pw me go : Int32) (z : ow_MS) (R : ow_NT), r ≤ s + 1 → J z R → Tt (fun K t => c_X8_unfold vl K (cd0_X8_unfold vl K dd) t 5 (nI L) f xp (nI L) (nI (2 * c)) pw me go (nI r) (nI s) 0 0 0 0 24000 (lv L) z) Q := by
        intro r pw me go z R hr hJ
        refine u_X8_unfold_5 ?_; unfold cm_X8_unfold_5
        rw [nI_1]
        exact ih (s + 1) r pw me go z R (by omega) hr hJ
      have c2 : ∀ (e i v : Nat) (pw me go : Int32) (z : ow_MS) (R : ow_NT), i + e = 2 * c → v < 2 * c → J z R → Tt (fun K t => c_X8_unfold vl K (cd0_X8_unfold vl K dd) t 2 (nI L) f xp (nI L) (nI (2 * c)) pw me go (nI (r + 1)) (nI s) (nI v) (nI i) 0 0 24000 (lv L) z) Q := by
        intro e
        induction e with
        | zero =>
          rintro i v pw me go z R hi hv2 hJ
          refine u_X8_unfold_2 ?_; unfold cm_X8_unfold_2
          exact w_leT (by omega) (by omega) (c5 (r + 1) pw me go z R (by omega) hJ)
        | succ e ihe =>
          rintro i v pw me go z R hi hv2 hJ
          obtain ⟨j1, j2, j3, j4, j5⟩ := id hJ
          obtain ⟨b1, b2⟩ := uf_bits ⟨v, by omega⟩
          dsimp only at b1 b2
          have c4 : ∀ (v' : Nat) (pw x14 : Int32) (z : ow_MS) (R : ow_NT), v' < 2 * c → J z R → Tt (fun K t => c_X8_unfold vl K (cd0_X8_unfold vl K dd) t 4 (nI L) f xp (nI L) (nI (2 * c)) pw me go (nI (r + 1)) (nI s) (nI v') (nI i) x14 0 24000 (lv L) z) Q := by
            rintro v' pw x14 z R hv' hJ
            have hn := (hJ.2.2.1.1 v' (by rw [hJ.2.2.2.1]; exact hv')).1
            rw [hJ.2.2.2.1] at hn
            refine u_X8_unfold_4 ?_; unfold cm_X8_unfold_4
            rw [nI_1]
            exact w_crI (nH_1 hh) rfl (show v' < 24 by omega) (hJ.2.1.2.2.1 v') (ihe (i + 1) _ pw _ _ z R (by omega) hn hJ)
          have c3 : ∀ (x15 : Int32) (z : ow_MS) (R : ow_NT), J z R → Tt (fun K t => c_X8_unfold vl K (cd0_X8_unfold vl K dd) t 3 (nI L) f xp (nI L) (nI (2 * c)) pw me go (nI (r + 1)) (nI s) (nI v) (nI i) (nI (v / 2)) x15 24000 (lv L) z) Q := by
            rintro x15 z R ⟨j1, j2, j3, j4, j5⟩
            refine u_X8_unfold_3 ?_; unfold cm_X8_unfold_3
            rw [b2]
            refine w_cs0 (tc_flipCrossing hh j2 j3.2.2.1 (show v / 2 < 12 by omega)) ?_
            rintro z1 ⟨g1, g2⟩
            have n1 := nvL_flip (x := v / 2) (G := su R.2.2.2 (v / 2) (- R.2.2.2 (v / 2))) j3 (by omega)
            exact c4 (mt v) _ _ z1 _ (mt_lt hv2) ⟨lvS_fr (L := L) g2 (fun g hg => Or.inl (cP_in hg)) ⟨_, g1, n1.2.2.1⟩ j1, g1, n1, j4, fr_tr j5 (fr_mono (fun g hg => by unfold cP lv at hg; unfold unP; omega) g2)⟩
          refine u_X8_unfold_2 ?_; unfold cm_X8_unfold_2
          rw [b1, show Int32.ofNat ((cX vl).2 (24000 + 2)).2.1 = nI 13 from rfl]
          refine w_leF (by omega) (by omega) (w_if (fun _ => w_if (fun _ => w_if (fun _ => w_crI (nH_3 hh) rfl (show v / 2 < 12 by omega) rfl ?_) (fun _ => c4 v _ _ z R hv2 hJ)) (fun _ => c4 v _ _ z R hv2 hJ)) (fun _ => c5 (r + 1) pw me go z R (by omega) hJ))
          rw [nI_1 L]
          refine w_le (by omega) (by omega) (fun _ => c3 _ z R hJ) (fun h13 => ?_)
          have hh1 := lv_nH (show L + 1 ≤ 12 by omega)
          obtain ⟨T', t1, t2⟩ := j1 (L + 1) (by omega)
          refine w_crX rfl (show L + 1 < 13 by omega) (w_cs0 (tc_copy hh1 hh (by unfold nDj lv; omega) t1 j2 j3.2.1) ?_)
          rintro z1 ⟨g1, g2⟩
          refine w_crX rfl (show L + 1 < 13 by omega) (w_cs0 (tc_smoothCrossing hh1 g1 (nt_copy_b24 t2 j3.2.2.1) (show v / 2 < R.1 by omega) j3.2.1) ?_)
          rintro z2 ⟨g3, g4⟩
          have n2 := nvL_sm (Q := T') (x := v / 2) j3 t2 (by omega)
          have f2 : fr (cP (lv (L + 1))) z z2 := fr_tr g2 g4
          have l2 : lvS z2 := lvS_fr (L := L + 1) f2 (fun g hg => Or.inl (cP_in hg)) ⟨_, g3, n2.2.2.1⟩ j1
          refine w_cs0 (hself (by omega) _ _ _ z2 l2 g3 n2) ?_
          rintro z3 ⟨l3, f3⟩
          have f23 : fr (unP (L + 1)) z z3 := fr_tr (fr_mono (fun g hg => by unfold cP lv at hg; unfold unP; omega) f2) f3
          exact c3 _ z3 R ⟨l3, cAt_fr f23 (fun g hg h9 => by unfold cP lv at hg; unfold unP at h9; omega) j2, j3, j4, fr_tr j5 (fr_mono (fun g hg => by unfold unP at hg ⊢; omega) f23)⟩
      refine u_X8_unfold_1 ?_; unfold cm_X8_unfold_1
      refine w_leF (by omega) (by omega) (w_if (fun _ => ?_) (fun _ => c5 r pw me go z R (by omega) hJ))
      rw [nI_1]
      exact c2 (2 * c) 0 s pw me go z R (by omega) (by omega) hJ
  refine w_cdU ?_
  refine u_X8_unfold_0 ?_; unfold cm_X8_unfold_0
  refine w_crX rfl (show L < 13 by omega) (w_rdF hT.1 ?_)
  rw [hc, rn_mul2]
  exact c1 (2 * c) 0 0 _ _ _ y T (by omega) (by omega) ⟨h0, hT, hv, hc, fr_rf⟩
theorem tc_unfD : ∀ (d L : Nat), L + d = 12 → ∀ (R : ow_NT) (f xp : Int32) (z : ow_MS), lvS z → cAt z (lv L) R → nvL L R → Te (fun K => cd0_X8_unfold vl K (d + 3) 24000 (nI L) f xp (nI L) z) (fun z1 => lvS z1 ∧ fr (unP L) z z1) := by
  intro d
  induction d with
  | zero =>
    intro L hL R f xp z h0 hT hv
    exact tc_unfS (dd := 2) (by omega) (fun h => absurd h (by omega)) h0 hT hv
  | succ d ih =>
    intro L hL R f xp z h0 hT hv
    exact tc_unfS (dd := d + 3) (by omega) (fun _ => ih (L + 1) (by omega)) h0 hT hv
theorem tc_unfold {R : ow_NT} (h0 : lvS y) (hT : cAt y (lv 0) R) (hv : nvL 0 R) : Te (fun K => ce_X8_unfold vl K 24000 0 f xp 0 y) (fun z1 => lvS z1 ∧ fr (unP 0) y z1) := tc_unfD 12 0 rfl R f xp y h0 hT hv
end CUN
