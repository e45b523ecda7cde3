-- CHAIN: the class's table, exactly
def tabT (z : ow_MS) (F : Nat → Int → Int) : Prop := ∀ i, i < 504 → z.2.1 43018 i = iI (F (i / 56) (((i % 56 : Nat) : Int) - 20))
section XCJ8
variable {vl : Nat → Nat} {y : ow_MS}
theorem te_addCircle {F : Nat → Int → Int} (hF : tabT y F) (h1 : ∀ o, F o (-21) = 0) (h2 : ∀ o, F o 36 = 0) : Te (fun K => ce_X1_addCircle vl K 43000 y) (fun y1 => fr (fun g => g = 43018) y y1 ∧ tabT y1 (fun o d => F o (d - 1) + F o (d + 1))) := by
  let N : Nat → Int32 := fun i => iI (F (i / 56) (((i % 56 : Nat) : Int) - 20 - 1) + F (i / 56) (((i % 56 : Nat) : Int) - 20 + 1))
  let Q : ow_MS → Prop := fun y1 => fr (fun g => g = 43018) y y1 ∧ tabT y1 (fun o d => F o (d - 1) + F o (d + 1))
  let J : Nat → ow_MS → Prop := fun i z => fr (fun g => g = 43018) y z ∧ (∀ j, j < i → j < 504 → z.2.1 43018 j = N j) ∧ ∀ j, i ≤ j → z.2.1 43018 j = y.2.1 43018 j
  have dm : ∀ o q, q < 56 → (56 * o + q) / 56 = o ∧ (56 * o + q) % 56 = q := fun o q hq => by omega
  have c2 : ∀ (o : Nat), o ≤ 8 → (∀ z, J (56 * (o + 1)) z → Tt (fun K k => c_X1_addCircle vl K k 1 (nI (o + 1)) 0 0 0 0 43000 0 z) Q) → ∀ (d q : Nat) (z : ow_MS), q + d = 56 → J (56 * o + q) z → Tt (fun K k => c_X1_addCircle vl K k 2 (nI o) (nI (56 * o)) (iI (F o ((q : Int) - 21))) (nI q) 0 43000 0 z) Q := by
    intro o ho hnext d
    induction d with
    | zero =>
      intro q z hq hz
      refine u_X1_addCircle_2 ?_; unfold cm_X1_addCircle_2
      refine w_leT (a := 56) (b := q) (by omega) (by omega) ?_
      rw [nI_1]
      refine hnext z ?_
      rw [show 56 * (o + 1) = 56 * o + q by omega]
      exact hz
    | succ d ih =>
      intro q z hq hz
      obtain ⟨z1, z2, z3⟩ := hz
      obtain ⟨d1, d2⟩ := dm o q (by omega)
      have eh : z.2.1 43018 (56 * o + q) = iI (F o ((q : Int) - 20)) := by
        rw [z3 _ (Nat.le_refl _), hF _ (by omega), d1, d2]
      have c3 : ∀ t0 : Int32, t0 = iI (F o ((q : Int) - 19)) → Tt (fun K k => c_X1_addCircle vl K k 3 (nI o) (nI (56 * o)) (iI (F o ((q : Int) - 21))) (nI q) (iI (F o ((q : Int) - 20))) 43000 t0 z) Q := by
        intro t0 ht
        refine u_X1_addCircle_3 ?_; unfold cm_X1_addCircle_3
        rw [nI_add, nI_1, ht, iI_add]
        have e9 : ((q + 1 : Nat) : Int) - 21 = (q : Int) - 20 := by omega
        have nx := ih (q + 1) (usI z (43000 + 18) (56 * o + q) (iI (F o ((q : Int) - 21) + F o ((q : Int) - 19)))) (by omega) ⟨fr_I2 z1 rfl, fun j hj hj5 => ?_, fun j hj => ?_⟩
        · rw [e9] at nx
          exact w_ctI ch_43018 rfl (by omega) nx
        · by_cases e : j = 56 * o + q
          · rw [e]
            refine po_usI_at.trans ?_
            show _ = iI (F ((56 * o + q) / 56) ((((56 * o + q) % 56 : Nat) : Int) - 20 - 1) + F ((56 * o + q) / 56) ((((56 * o + q) % 56 : Nat) : Int) - 20 + 1))
            rw [d1, d2, show (q : Int) - 20 - 1 = (q : Int) - 21 by omega, show (q : Int) - 20 + 1 = (q : Int) - 19 by omega]
          · exact (po_usI_ne e).trans (z2 j (by omega) hj5)
        · exact (po_usI_ne (by omega)).trans (z3 j (by omega))
      refine u_X1_addCircle_2 ?_; unfold cm_X1_addCircle_2
      rw [nI_add, nI_1 q]
      refine w_leF (a := 56) (b := q) (by omega) (by omega) (w_crI ch_43018 rfl (by omega) eh (w_le (a := 56) (b := q + 1) (by omega) (by omega) (fun h9 => c3 0 ?_) (fun h9 => w_crI ch_43018 (nI_1 _) (by omega) rfl (c3 _ ?_))))
      · rw [show (q : Int) - 19 = 36 by omega, h2 o]
        rfl
      · obtain ⟨d3, d4⟩ := dm o (q + 1) (by omega)
        rw [show 56 * o + q + 1 = 56 * o + (q + 1) by omega, z3 _ (by omega), hF _ (by omega), d3, d4, show ((q + 1 : Nat) : Int) - 20 = (q : Int) - 19 by omega]
  have c1 : ∀ (d o : Nat) (z : ow_MS), o + d = 9 → J (56 * o) z → Tt (fun K k => c_X1_addCircle vl K k 1 (nI o) 0 0 0 0 43000 0 z) Q := by
    intro d
    induction d with
    | zero =>
      intro o z ho hz
      refine u_X1_addCircle_1 ?_; unfold cm_X1_addCircle_1
      exact w_ltT (a := 8) (b := o) (by omega) (by omega) (w_some ⟨hz.1, fun i hi => hz.2.1 i (by omega) hi⟩)
    | succ d ih =>
      intro o z ho hz
      refine u_X1_addCircle_1 ?_; unfold cm_X1_addCircle_1
      refine w_ltF (a := 8) (b := o) (by omega) (by omega) ?_
      rw [show nI o * 56 = nI (56 * o) from (Int32.mul_comm _ _).trans (pk_mul 56 o)]
      have := c2 o (by omega) (fun z1 h1 => ih (o + 1) z1 (by omega) h1) 56 0 z (by omega) hz
      rw [show ((0 : Nat) : Int) - 21 = -21 by omega, h1 o] at this
      exact this
  refine e_X1_addCircle ?_
  refine u_X1_addCircle_0 ?_; unfold cm_X1_addCircle_0
  exact c1 9 0 y (by omega) ⟨fr_rf, fun j hj => absurd hj (Nat.not_lt_zero _), fun j _ => rfl⟩
end XCJ8
section XCJ9
variable {vl : Nat → Nat} {c ci p : Nat} {S : ow_NP} {G : Nat → Int32} {Ls : Nat → Nat → Nat} {ns : Nat → Nat} {wf : Nat → Bool} {W C : Nat}
/-- nothing outside -/
theorem sz9_0 {h : Nat} {dg : Int} (hn : ∀ s, s < 2 ^ c → ns s ≤ 9) (hc : c ≤ 8) (h0 : c < h ∨ dg < -10 ∨ 18 < dg) : sz9 c ns dg h = 0 := by
  rcases Nat.eq_zero_or_pos (sz9 c ns dg h) with e | e
  · exact e
  · obtain ⟨s, m, a, -⟩ := ix_on (fun s hs => by have := hn s hs; omega) e
    have a1 := pc_le a.1
    have a2 := pc_le a.2.2.1
    have a3 := (kp_iff a2).mp a.2.2.2
    have a4 := hn s a.1
    have a5 := a.2.1
    omega
theorem bq_0 {h : Nat} {dg q : Int} (hn : ∀ s, s < 2 ^ c → ns s ≤ 9) (hc : c ≤ 8) (h0 : c < h ∨ dg < -10 ∨ 18 < dg) : bq9 q c S G Ls ns h dg = 0 := by
  have e := sz9_0 hn hc h0
  unfold bq9
  have e1 : RK9 q c (fun g => g < 2 * c) (relC9 S G c) (fun x => 2 * x) (fun x => S.2 (2 * x)) Ls ns dg h = 0 := by
    unfold RK9
    rw [e]
    rfl
  have e2 : bf9 (fun o => RK9 q c (fun g => g < 2 * c) (relC9 S G c) (fun x => 2 * x) (fun x => S.2 (2 * x)) Ls ns dg o) h = 0 := by
    cases h with
    | zero => rfl
    | succ h =>
      show RK9 q c (fun g => g < 2 * c) (relC9 S G c) (fun x => 2 * x) (fun x => S.2 (2 * x)) Ls ns dg h = 0
      unfold RK9
      rw [e]
      exact rk_w0 _ _
  rw [e, e1, e2]
  rfl
theorem cir_0 {F : Int → Int} (hF : ∀ d, d < -10 ∨ 18 < d → F d = 0) : ∀ (j : Nat) (d : Int), d < -10 - (j : Int) ∨ 18 + (j : Int) < d → cirF j F d = 0
  | 0, d, h => hF d (by omega)
  | j + 1, d, h => by
    show cirF j F (d - 1) + cirF j F (d + 1) = 0
    rw [cir_0 hF j (d - 1) (by omega), cir_0 hF j (d + 1) (by omega)]
    rfl
theorem te_cmp3 {z7 : ow_MS} {F : Nat → Int → Int} : ∀ (e i : Nat) (v : Nat → Nat) (z : ow_MS) (W' C' : Nat), i + e = 504 → fr rkG z7 z → vI v W' C' → tabT z F → Tt (fun K k => d_X1_compute K k 3 (nI p) (iI (sN9 (fun i => F (i / 56) (((i % 56 : Nat) : Int) - 20)) i)) (nI i) 43000 4000 v z) (gQ v (fun r => fr rkG z7 r.2.2 ∧ (∃ W' C', vI r.2.1 W' C') ∧ tabT r.2.2 F ∧ r.1 = iI (sN9 (fun i => F (i / 56) (((i % 56 : Nat) : Int) - 20)) 504))) := by
  intro e
  induction e with
  | zero =>
    intro i v z W' C' hi hz hv' ht
    refine u_X1_compute_3 ?_; unfold dm_X1_compute_3
    rw [show uw_len (cX v) z (43000 + 18) = 504 from ch_43018]
    refine w_leT (a := 504) (b := i) (by omega) (by omega) (w_some ⟨Nat.le_refl _, hz, ⟨W', C', hv'⟩, ht, ?_⟩)
    rw [show i = 504 by omega]
  | succ e ih =>
    intro i v z W' C' hi hz hv' ht
    have nx := ih (i + 1) v z W' C' (by omega) hz hv' ht
    refine u_X1_compute_3 ?_; unfold dm_X1_compute_3
    rw [show uw_len (cX v) z (43000 + 18) = 504 from ch_43018, nI_1]
    refine w_leF (a := 504) (b := i) (by omega) (by omega) (w_crI ch_43018 rfl (by omega) (ht i (by omega)) ?_)
    rw [iI_add]
    exact nx
theorem te_cmp2 {z7 : ow_MS} {F : Nat → Int → Int} (hF : ∀ o d, d < -10 ∨ 18 < d → F o d = 0) (c7 : cAt z7 44000 (c, ci, S, G)) (hci : ci ≤ 6) : ∀ (e i : Nat) (v : Nat → Nat) (z : ow_MS) (W' C' : Nat), i + e = ci → fr rkG z7 z → vI v W' C' → tabT z (fun o => cirF i (F o)) → Tt (fun K k => d_X1_compute K k 2 (nI p) (nI i) 0 43000 4000 v z) (gQ v (fun r => fr rkG z7 r.2.2 ∧ (∃ W' C', vI r.2.1 W' C') ∧ tabT r.2.2 (fun o => cirF ci (F o)) ∧ r.1 = iI (sN9 (fun i => cirF ci (F (i / 56)) (((i % 56 : Nat) : Int) - 20)) 504))) := by
  intro e
  induction e with
  | zero =>
    intro i v z W' C' hi hz hv' ht
    have ei : i = ci := by omega
    rw [ei] at ht
    refine u_X1_compute_2 ?_; unfold dm_X1_compute_2
    exact w_rdF (at44 c7 hz).2.1 (w_leT (a := ci) (b := i) (by omega) (by omega) (te_cmp3 504 0 v z W' C' (by omega) hz hv' ht))
  | succ e ih =>
    intro i v z W' C' hi hz hv' ht
    refine u_X1_compute_2 ?_; unfold dm_X1_compute_2
    refine w_rdF (at44 c7 hz).2.1 (w_leF (a := ci) (b := i) (by omega) (by omega) (w_cs0 (te_addCircle ht (fun o => cir_0 (hF o) i _ (by omega)) (fun o => cir_0 (hF o) i _ (by omega))) ?_))
    rintro z1 ⟨h1, h2⟩
    rw [nI_1]
    exact ih (i + 1) v z1 W' C' (by omega) (fr_tr hz (fr_mono (fun g hg => Or.inr (Or.inr hg)) h1)) hv' h2
theorem te_cmp1 {z7 : ow_MS} (c7 : cAt z7 44000 (c, ci, S, G)) (hvn : vn c S) (hc8 : c ≤ 8) (hci : ci ≤ 6) (hwf : gaO c S wf) (hL7 : LpY z7 S G c Ls ns) (hsz : ∀ h, smH (fun s => mbt (ns s)) h 0 (2 ^ c) ≤ 1140) (htb7 : tbP z7) (hch7 : chP z7) (p7 : z7.1 43010 = nI p) (hp : prT p) (hp2 : p ≤ 997) (hC : cu9 c 2000 (fun g => g < 2 * c) (fun x => 2 * x) (fun x => S.2 (2 * x)) (fun x => S.2 (2 * x)) (relC9 S G c)) : ∀ (e d : Nat) (v : Nat → Nat) (z : ow_MS) (W' C' : Nat), d + e = 29 → fr rkG z7 z → vI v W' C' → (∀ o d', o ≤ c → d' < d → z.2.1 43018 (56 * o + d' + 10) = iI (bq9 p c S G Ls ns o (dgI d'))) → (∀ i, (∀ o d', o ≤ c → d' < d → i ≠ 56 * o + d' + 10) → i < 504 → z.2.1 43018 i = 0) → Tt (fun K k => d_X1_compute K k 1 (nI p) (nI d - 10) 0 43000 4000 v z) (gQ v (fun r => fr rkG z7 r.2.2 ∧ (∃ W' C', vI r.2.1 W' C') ∧ tabT r.2.2 (fun o => cirF ci (fun d => bq9 p c S G Ls ns o d)) ∧ r.1 = iI (sN9 (fun i => cirF ci (fun d => bq9 p c S G Ls ns (i / 56) d) (((i % 56 : Nat) : Int) - 20)) 504))) := by
  have n10 : ¬ rkG 43010 := fun h9 => (rk_lt h9).2.2 rfl
  have n5 : ¬ rkG 43005 := fun h9 => by have := rk_lt h9; omega
  have n234 : ¬ rkG 43002 ∧ ¬ rkG 43003 ∧ ¬ rkG 43004 := ⟨fun h9 => by have := rk_lt h9; omega, fun h9 => by have := rk_lt h9; omega, fun h9 => by have := rk_lt h9; omega⟩
  have hn9 : ∀ s, s < 2 ^ c → ns s ≤ 9 := fun s hs => (hL7 s hs).2
  intro e
  induction e with
  | zero =>
    intro d v z W' C' hd hz hv' t1 t2
    have hd29 : d = 29 := by omega
    refine u_X1_compute_1 ?_; unfold dm_X1_compute_1
    refine w_ifT ((dg_c ⟨d, by omega⟩).1.mpr (by dsimp only; omega)) (te_cmp2 (F := fun o d => bq9 p c S G Ls ns o d) (fun o d h => bq_0 hn9 hc8 (Or.inr h)) c7 hci ci 0 v z W' C' (by omega) hz hv' (fun i hi => ?_))
    show z.2.1 43018 i = iI (bq9 p c S G Ls ns (i / 56) (((i % 56 : Nat) : Int) - 20))
    by_cases q : i / 56 ≤ c ∧ 10 ≤ i % 56 ∧ i % 56 < 39
    · have := t1 (i / 56) (i % 56 - 10) q.1 (by omega)
      rw [show 56 * (i / 56) + (i % 56 - 10) + 10 = i by omega] at this
      rw [this]
      unfold dgI
      rw [show ((i % 56 - 10 : Nat) : Int) - 10 = ((i % 56 : Nat) : Int) - 20 by omega]
    · rw [bq_0 hn9 hc8 (by omega), t2 i (fun o d' ho hd' => by omega) hi]
      rfl
  | succ e ih =>
    intro d v z W' C' hd hz hv' t1 t2
    have hrk := te_rankDegree (d := d) hv' (at44 c7 hz) hvn hc8 (by omega) hwf (LpY_fr hz n234 hL7) (tbP_fr hz n5 htb7) (chP_fr hz (fun g hg => by have := rk_lt hg; omega) hch7) (((hz 43010 n10).1).trans p7) hp hp2 (fun h => bkF_sz (fun s hs => (hL7 s hs).2) (hsz h)) hC (LT_C hL7) (RK := fun h => RK9 p c (fun g => g < 2 * c) (relC9 S G c) (fun x => 2 * x) (fun x => S.2 (2 * x)) Ls ns (dgI d) h) (fun h => rfl)
    refine u_X1_compute_1 ?_; unfold dm_X1_compute_1
    refine w_ifF (fun h9 => by have := (dg_c ⟨d, by omega⟩).1.mp h9; dsimp only at this; omega) (w_dc1 hrk ?_)
    rintro x v1 z8 ⟨r1, r2, ⟨W2, C2, r3⟩, r4, r5⟩
    refine w_chV r1 ?_
    rw [(dg_c ⟨d, by omega⟩).2]
    refine ih (d + 1) v1 z8 W2 C2 (by omega) (fr_tr hz r2) r3 (fun o d' ho hd' => ?_) (fun i hi hi5 => ?_)
    · by_cases q : d' = d
      · rw [q]
        refine (r4 o ho).trans ?_
        rw [nI_iI, nI_iI, nI_iI, iI_sub, iI_sub]
        rfl
      · rw [← t1 o d' ho (by omega)]
        exact r5 _ (fun o' ho' h9 => by omega)
    · rw [← t2 i (fun o d' ho hd' => hi o d' ho (by omega)) hi5]
      exact r5 i (fun o ho => hi o d ho (by omega))
theorem te_cmp0 {z5 : ow_MS} (hT : tyI (c, ci, S, G)) (c5 : cAt z5 44000 (c, ci, S, G)) (htb : tbP z5) (hch : chP z5) (p5 : z5.1 43010 = nI p) (hp : prT p) (hp2 : p ≤ 997) (hv : vI vl W C) (hC : cu9 c 2000 (fun g => g < 2 * c) (fun x => 2 * x) (fun x => S.2 (2 * x)) (fun x => S.2 (2 * x)) (relC9 S G c)) : Tt (fun K k => cs0 (ce_X1_markLoops vl K 43000 z5) fun z10 => cs0 (ce_J7_fill_53178 vl K (43000 + 18) 0 z10) fun z11 => d_X1_compute K k 1 (nI p) (-10) 0 43000 4000 vl z11) (gQ vl (fun r => fr cmH z5 r.2.2 ∧ (∃ W' C', vI r.2.1 W' C') ∧ ∃ z6 Ls ns, LpY z6 S G c Ls ns ∧ tabT r.2.2 (fun o => cirF ci (fun d => bq9 p c S G Ls ns o d)) ∧ r.1 = iI (sN9 (fun i => cirF ci (fun d => bq9 p c S G Ls ns (i / 56) d) (((i % 56 : Nat) : Int) - 20)) 504))) := by
  obtain ⟨hc8, ⟨wf, hwf⟩, hn9, hsz⟩ := tyI_sz hT
  have hci : ci ≤ 6 := by
    have h9 : np_rg c S + ci ≤ 6 := hT.1.2.2.2
    omega
  refine w_cs0 (tc_markLoops c5 hT.1.1 hc8 hn9) ?_
  rintro z6 ⟨l1, l2⟩
  refine w_cs0 (tc_fillA (l := 504) ch_43018 (by omega)) ?_
  rintro z7 ⟨l0, l3⟩
  have hL6 : ∃ Ls : Nat → Nat → Nat, LpY z6 S G c Ls (fun s => rtsN (uPx S G (tb s) c) (2 * c)) := by
    have hex : ∀ s, ∃ L : Nat → Nat, s < 2 ^ c → LpS z6 S G c s L (rtsN (uPx S G (tb s) c) (2 * c)) := by
      intro s
      by_cases hs : s < 2 ^ c
      · obtain ⟨L, n, hL⟩ := l1 s hs
        have e := hL.2.2.2.2
        rw [e] at hL
        exact ⟨L, fun _ => hL⟩
      · exact ⟨fun _ => 0, fun h9 => absurd h9 hs⟩
    exact ⟨fun s => Classical.choose (hex s), fun s hs => ⟨Classical.choose_spec (hex s) hs, hn9 s hs⟩⟩
  obtain ⟨Ls, hL6⟩ := hL6
  have f7 : fr (fun g => 43002 ≤ g ∧ g ≤ 43004 ∨ g = 43018) z5 z7 := fr_tr (fr_mono (fun g hg => by omega) l2) (fr_mono (fun g hg => by omega) l3)
  have c7 : cAt z7 44000 (c, ci, S, G) := cAt_fr f7 (fun g hg h9 => by unfold cP at hg; omega) c5
  rw [show (-10 : Int32) = nI 0 - 10 by decide]
  refine w_mono (te_cmp1 c7 hT.1.1 hc8 hci hwf (LpY_fr l3 (by omega) hL6) hsz (tbP_fr f7 (by omega) htb) (chP_fr f7 (fun g hg => by omega) hch) ((f7 43010 (by omega)).1.trans p5) hp hp2 hC 29 0 vl z7 W C (by omega) fr_rf hv (fun o d' _ hd' => absurd hd' (Nat.not_lt_zero _)) (fun i _ hi => l0 i hi)) ?_
  rintro r ⟨r1, r2, r3, r4, r5⟩
  exact ⟨r1, fr_tr (fr_mono (fun g hg => by unfold cmH; omega) f7) (fr_mono (fun g hg => by have := rk_lt hg; unfold cmH; omega) r2), r3, z6, Ls, _, hL6, r4, r5⟩
end XCJ9
