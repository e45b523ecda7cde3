/-! the class: all degrees -/
def cmH (g : Nat) : Prop := 43002 ≤ g ∧ g ≤ 43004 ∨ 43007 ≤ g ∧ g ≤ 43018
theorem rk_lt {g : Nat} (hg : rkG g) : 43007 ≤ g ∧ g ≤ 43018 ∧ g ≠ 43010 := by
  unfold rkG lyG kpG at hg
  omega
section CM2
variable {vl : Nat → Nat} {c ci p : Nat} {S : ow_NP} {G : Nat → Int32} {Ls : Nat → Nat → Nat} {ns : Nat → Nat} {wf : Nat → Bool} {W C : Nat}
theorem u_X1_compute_3 {x2 : Int32} {x3 : Int32} {x4 : Int32} {r0 : Nat} {r1 : Nat} {vl : Nat → Nat} {z : ow_MS} {Q : (Int32 × (Nat → Nat) × ow_MS) → Prop} (H : Tt (fun K k => dm_X1_compute_3 K (d_X1_compute K k) x2 x3 x4 r0 r1 vl z) (gQ vl Q)) : Tt (fun K k => d_X1_compute K k 3 x2 x3 x4 r0 r1 vl z) (gQ vl Q) := w_un (g := fun K k => chV vl (dm_X1_compute_3 K (d_X1_compute K k) x2 x3 x4 r0 r1 vl z)) (fun _ _ => rfl) (w_chV (E := fun K k => dm_X1_compute_3 K (d_X1_compute K k) x2 x3 x4 r0 r1 vl z) (Nat.le_refl _) H)
theorem tc_cmp3 {z7 : ow_MS} : ∀ (e i : Nat) (x3 : Int32) (v : Nat → Nat) (z : ow_MS) (W' C' : Nat), i + e = 504 → fr rkG z7 z → vI v W' C' → Tt (fun K k => d_X1_compute K k 3 (nI p) x3 (nI i) 43000 4000 v z) (gQ v (fun r => fr rkG z7 r.2.2 ∧ ∃ W' C', vI r.2.1 W' C')) := by
  intro e
  induction e with
  | zero =>
    intro i x3 v z W' C' hi hz hv'
    refine u_X1_compute_3 ?_; unfold dm_X1_compute_3
    rw [show uw_len (cX v) z (43000 + 18) = 504 from ch_43018]
    exact w_leT (a := 504) (b := i) (by omega) (by omega) (w_some ⟨Nat.le_refl _, hz, W', C', hv'⟩)
  | succ e ih =>
    intro i x3 v z W' C' hi hz hv'
    refine u_X1_compute_3 ?_; unfold dm_X1_compute_3
    rw [show uw_len (cX v) z (43000 + 18) = 504 from ch_43018, nI_1]
    exact w_leF (a := 504) (b := i) (by omega) (by omega) (w_crI ch_43018 rfl (by omega) rfl (ih (i + 1) _ v z W' C' (by omega) hz hv'))
theorem at44 {z7 z : ow_MS} {T : ow_NT} (c7 : cAt z7 44000 T) (hz : fr rkG z7 z) : cAt z 44000 T := cAt_fr hz (fun g hg h9 => by have := rk_lt h9; unfold cP at hg; omega) c7
theorem u_X1_compute_2 {x2 : Int32} {x3 : Int32} {x4 : Int32} {r0 : Nat} {r1 : Nat} {vl : Nat → Nat} {z : ow_MS} {Q : (Int32 × (Nat → Nat) × ow_MS) → Prop} (H : Tt (fun K k => dm_X1_compute_2 K (d_X1_compute K k) x2 x3 x4 r0 r1 vl z) (gQ vl Q)) : Tt (fun K k => d_X1_compute K k 2 x2 x3 x4 r0 r1 vl z) (gQ vl Q) := w_un (g := fun K k => chV vl (dm_X1_compute_2 K (d_X1_compute K k) x2 x3 x4 r0 r1 vl z)) (fun _ _ => rfl) (w_chV (E := fun K k => dm_X1_compute_2 K (d_X1_compute K k) x2 x3 x4 r0 r1 vl z) (Nat.le_refl _) H)
theorem tc_cmp2 {z7 : ow_MS} (c7 : cAt z7 44000 (c, ci, S, G)) (hci : ci ≤ 6) : ∀ (e i : Nat) (v : Nat → Nat) (z : ow_MS) (W' C' : Nat), i + e = ci → fr rkG z7 z → vI v W' C' → Tt (fun K k => d_X1_compute K k 2 (nI p) (nI i) 0 43000 4000 v z) (gQ v (fun r => fr rkG z7 r.2.2 ∧ ∃ W' C', vI r.2.1 W' C')) := by
  intro e
  induction e with
  | zero =>
    intro i v z W' C' hi hz hv'
    refine u_X1_compute_2 ?_; unfold dm_X1_compute_2
    exact w_rdF (at44 c7 hz).2.1 (w_leT (a := ci) (b := i) (by omega) (by omega) (tc_cmp3 504 0 _ v z W' C' (by omega) hz hv'))
  | succ e ih =>
    intro i v z W' C' hi hz hv'
    refine u_X1_compute_2 ?_; unfold dm_X1_compute_2
    refine w_rdF (at44 c7 hz).2.1 (w_leF (a := ci) (b := i) (by omega) (by omega) (w_cs0 tc_addCircle (fun z1 h1 => ?_)))
    rw [nI_1]
    exact ih (i + 1) v z1 W' C' (by omega) (fr_tr hz (fr_mono (fun g hg => Or.inr (Or.inr hg)) h1)) hv'
theorem u_X1_compute_1 {x2 : Int32} {x3 : Int32} {x4 : Int32} {r0 : Nat} {r1 : Nat} {vl : Nat → Nat} {z : ow_MS} {Q : (Int32 × (Nat → Nat) × ow_MS) → Prop} (H : Tt (fun K k => dm_X1_compute_1 K (d_X1_compute K k) x2 x3 x4 r0 r1 vl z) (gQ vl Q)) : Tt (fun K k => d_X1_compute K k 1 x2 x3 x4 r0 r1 vl z) (gQ vl Q) := w_un (g := fun K k => chV vl (dm_X1_compute_1 K (d_X1_compute K k) x2 x3 x4 r0 r1 vl z)) (fun _ _ => rfl) (w_chV (E := fun K k => dm_X1_compute_1 K (d_X1_compute K k) x2 x3 x4 r0 r1 vl z) (Nat.le_refl _) H)
theorem tc_cmp1 {z7 : ow_MS} (c7 : cAt z7 44000 (c, ci, S, G)) (hvn : vn c S) (hc8 : c ≤ 8) (hci : ci ≤ 6) (hwf : gaO c S wf) (hL7 : LpY z7 S G c Ls ns) (hsz : ∀ h, smH (fun s => mbt (ns s)) h 0 (2 ^ c) ≤ 1140) (htb7 : tbP z7) (hch7 : chP z7) (p7 : z7.1 43010 = nI p) (hp1 : 2 ≤ p) (hp2 : p ≤ 997) : ∀ (e d : Nat) (v : Nat → Nat) (z : ow_MS) (W' C' : Nat), d + e = 29 → fr rkG z7 z → vI v W' C' → Tt (fun K k => d_X1_compute K k 1 (nI p) (nI d - 10) 0 43000 4000 v z) (gQ v (fun r => fr rkG z7 r.2.2 ∧ ∃ W' C', vI r.2.1 W' C')) := by
  have n10 : ¬ rkG 43010 := fun h9 => (rk_lt h9).2.2 rfl
  have n5 : ¬ rkG 43005 := fun h9 => by have := rk_lt h9; omega
  have n234 : ¬ rkG 43002 ∧ ¬ rkG 43003 ∧ ¬ rkG 43004 := ⟨fun h9 => by have := rk_lt h9; omega, fun h9 => by have := rk_lt h9; omega, fun h9 => by have := rk_lt h9; omega⟩
  intro e
  induction e with
  | zero =>
    intro d v z W' C' hd hz hv'
    refine u_X1_compute_1 ?_; unfold dm_X1_compute_1
    exact w_ifT ((dg_c ⟨d, by omega⟩).1.mpr (by dsimp only; omega)) (tc_cmp2 c7 hci ci 0 v z W' C' (by omega) hz hv')
  | succ e ih =>
    intro d v z W' C' hd hz hv'
    have hrk := tc_rankDegree (d := d) hv' (at44 c7 hz) hvn hc8 (by omega) hwf (LpY_fr hz n234 hL7) (tbP_fr hz n5 htb7) (chP_fr hz (fun g hg => by have := rk_lt hg; omega) hch7) (((hz 43010 n10).1).trans p7) hp1 hp2 (fun h => bkF_sz (fun s hs => (hL7 s hs).2) (hsz h))
    refine u_X1_compute_1 ?_; unfold dm_X1_compute_1
    refine w_ifF (fun h9 => by have := (dg_c ⟨d, by omega⟩).1.mp h9; dsimp only at this; omega) (w_dc1 hrk ?_)
    rintro x v1 z8 ⟨r1, r2, W2, C2, r3⟩
    refine w_chV r1 ?_
    rw [(dg_c ⟨d, by omega⟩).2]
    exact ih (d + 1) v1 z8 W2 C2 (by omega) (fr_tr hz r2) r3
theorem tc_cmp0 {z5 : ow_MS} (hT : tyI (c, ci, S, G)) (c5 : cAt z5 44000 (c, ci, S, G)) (htb : tbP z5) (hch : chP z5) (p5 : z5.1 43010 = nI p) (hp1 : 2 ≤ p) (hp2 : p ≤ 997) (hv : vI vl W C) : Tt (fun K k => cs0 (ce_X1_markLoops vl K 43000 z5) fun z10 => cs0 (ce_J7_fill_53178 vl K (43000 + 18) 0 z10) fun z11 => d_X1_compute K k 1 (nI p) (-10) 0 43000 4000 vl z11) (gQ vl (fun r => fr cmH z5 r.2.2 ∧ ∃ W' C', vI r.2.1 W' C')) := by
  obtain ⟨hc8, ⟨wf, hwf⟩, hn9, hsz⟩ := tyI_sz hT
  have hci : ci ≤ 6 := by
    have h9 : np_rg c S + ci ≤ 6 := hT.1.2.2.2
    omega
  refine w_cs0 (tc_markLoops c5 hT.1.1 hc8 hn9) ?_
  rintro z6 ⟨l1, l2⟩
  refine w_cs0 (tc_fillA (l := 504) ch_43018 (by omega)) ?_
  rintro z7 ⟨-, l3⟩
  have hL6 : ∃ Ls : Nat → Nat → Nat, LpY z6 S G c Ls (fun s => rtsN (uPx S G (tb s) c) (2 * c)) := by
    have hex : ∀ s, ∃ L : Nat → Nat, s < 2 ^ c → LpS z6 S G c s L (rtsN (uPx S G (tb s) c) (2 * c)) := by
      intro s
      by_cases hs : s < 2 ^ c
      · obtain ⟨L, n, hL⟩ := l1 s hs
        have e := hL.2.2.2.2
        rw [e] at hL
        exact ⟨L, fun _ => hL⟩
      · exact ⟨fun _ => 0, fun h9 => absurd h9 hs⟩
    exact ⟨fun s => Classical.choose (hex s), fun s hs => ⟨Classical.choose_spec (hex s) hs, hn9 s hs⟩⟩
  obtain ⟨Ls, hL6⟩ := hL6
  have f7 : fr (fun g => 43002 ≤ g ∧ g ≤ 43004 ∨ g = 43018) z5 z7 := fr_tr (fr_mono (fun g hg => by omega) l2) (fr_mono (fun g hg => by omega) l3)
  have c7 : cAt z7 44000 (c, ci, S, G) := cAt_fr f7 (fun g hg h9 => by unfold cP at hg; omega) c5
  rw [show (-10 : Int32) = nI 0 - 10 by decide]
  refine w_mono (tc_cmp1 c7 hT.1.1 hc8 hci hwf (LpY_fr l3 (by omega) hL6) hsz (tbP_fr f7 (by omega) htb) (chP_fr f7 (fun g hg => by omega) hch) ((f7 43010 (by omega)).1.trans p5) hp1 hp2 29 0 vl z7 W C (by omega) fr_rf hv) ?_
  rintro r ⟨r1, r2, r3⟩
  exact ⟨r1, fr_tr (fr_mono (fun g hg => by unfold cmH; omega) f7) (fr_mono (fun g hg => by have := rk_lt hg; unfold cmH; omega) r2), r3⟩
end CM2
