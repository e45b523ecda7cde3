-- CHAIN: the reference's rankOf, exactly
def rkX (y : ow_MS) (n : Nat) (A : rn_L) (sg : Nat → Bool) (c mi : Nat) : Prop := oNet y n A sg ∧ stX y A sg c ∧ plX y A sg c mi ∧ y.1 88 = nI mi
noncomputable def RKR (p : Int) (A : rn_L) (sg : Nat → Bool) (c : Nat) (dg : Int) (h : Nat) : Nat := RK9 p c (gG9 A) (relL9 A sg (fun x => x) c) (fun y => gV9 (y, 0)) (fun y => gV9 (prA9 A (y, 0))) (LsR A sg) (LcN A sg) dg h
section XCK7
variable {z : ow_MS}
theorem rkX_fr {n : Nat} {y y1 : ow_MS} {A : rn_L} {sg : Nat → Bool} {c mi : Nat} {P : Nat → Prop} (hn : mw_net n) (hf : fr P y y1) (hP : ∀ g, P g → g = 86 ∨ g = 87 ∨ 89 ≤ g ∧ g ≤ 93) (h : rkX y n A sg c mi) : rkX y1 n A sg c mi := by
  have hmn := net_mod hn
  have no : ∀ g, ¬ (g = 86 ∨ g = 87 ∨ 89 ≤ g ∧ g ≤ 93) → ¬ P g := fun g hg h9 => hg (hP g h9)
  refine ⟨oNet_fr hf (fun g hg => by have := hP g hg; omega) h.1, stX_fr hf (no 81 (by omega)) (no 82 (by omega)) (no 83 (by omega)) h.2.1, ⟨fun h' q hh hq => ?_, fun s m hs hm => ?_⟩, by rw [(hf 88 (no 88 (by omega))).1]; exact h.2.2.2⟩
  · rw [(hf 85 (no 85 (by omega))).2.1]
    exact h.2.2.1.1 h' q hh hq
  · rw [(hf 84 (no 84 (by omega))).2.1]
    exact h.2.2.1.2 s m hs hm
theorem re_rankOf {n P r q p mi : Nat} {A : rn_L} {sg : Nat → Bool} {T : ow_NT} (hn : mw_net n) (hK : chOK A sg T.1 P) (hC0 : rkX z n A sg T.1 mi) (hmi : mi ≤ T.1) (hN : isoN A sg (fun x => x) T) (hT : pm1 T) (hv : vn T.1 T.2.2.1) (hbd : bdA A) (hC : cu9 T.1 2000 (gG9 A) (fun y => gV9 (y, 0)) (fun y => gV9 (prA9 A (y, 0))) (fun y => gV9 (prA9 A (y, 0))) (relL9 A sg (fun x => x) T.1)) (hr : r < T.1) (hq : q < 80) (hp : prT p) (hp9 : p ≤ 997) : Te (fun K => qe_X13_rankOf K n (nI r) (nI q) (nI p) z) (fun o => fr rdH z o.2 ∧ o.1 = nI (RKR p A sg T.1 (dgq T.1 mi q) r)) := by
  have hK' := hK
  obtain ⟨hok, hc, hCl, hL9, hbs, hblk⟩ := hK
  have hV := okF_len hok
  have hp2 := hp.1
  have hLT := LT_R hN hT hv hc hbd hL9
  have h2c : 2 ^ T.1 ≤ 256 := two_mono (b := 8) hc
  have eRK : RKR p A sg T.1 (dgq T.1 mi q) r = rk9 p (sz9 T.1 (LcN A sg) (dgq T.1 mi q) (r + 1)) (rwl9 (MT9 T.1 (gG9 A) (relL9 A sg (fun x => x) T.1) (fun y => gV9 (y, 0)) (fun y => gV9 (prA9 A (y, 0))) (LsR A sg) (LcN A sg) (dgq T.1 mi q) r) (sz9 T.1 (LcN A sg) (dgq T.1 mi q) r)) := rfl
  let Q : Int32 × ow_MS → Prop := fun o => fr rdH z o.2 ∧ o.1 = nI (RKR p A sg T.1 (dgq T.1 mi q) r)
  have iF : ∀ {y : ow_MS}, fr rdH z y → rkX y n A sg T.1 mi := fun hf => rkX_fr hn hf (fun g hg => by unfold rdH at hg; omega) hC0
  have esz := hC0.2.2.1.1 (r + 1) q (by omega) hq
  have esz0 := hC0.2.2.1.1 r q (by omega) hq
  have hs0 : sz9 T.1 (LcN A sg) (dgq T.1 mi q) r ≤ 1140 := bkF_sz hL9 (hblk _)
  have hsz2 : sz9 T.1 (LcN A sg) (dgq T.1 mi q) (r + 1) ≤ 1140 := bkF_sz hL9 (hblk _)
  generalize hMM : MT9 T.1 (gG9 A) (relL9 A sg (fun x => x) T.1) (fun y => gV9 (y, 0)) (fun y => gV9 (prA9 A (y, 0))) (LsR A sg) (LcN A sg) (dgq T.1 mi q) r = MM at eRK
  generalize hsz : sz9 T.1 (LcN A sg) (dgq T.1 mi q) (r + 1) = size at esz hsz2 eRK
  refine e_X13_rankOf ?_
  refine u_X13_rankOf_0 ?_; unfold qm_X13_rankOf_0
  rw [show nI r + 1 = nI (r + 1) from nI_1 _, show (80 : Int32) * nI (r + 1) = nI (80 * (r + 1)) from pk_mul 80 _, nI_add, show (80 : Int32) * nI r = nI (80 * r) from pk_mul 80 _, nI_add]
  refine w_rdI ml85 rfl (by omega) esz (w_eqN (b := 0) (by omega) (by omega) (fun h9 => w_some ⟨fr_rf, ?_⟩) (fun _ => w_rdI ml85 rfl (by omega) esz0 (w_eqN (b := 0) (by omega) (by omega) (fun h9 => w_some ⟨fr_rf, ?_⟩) (fun _ => w_rdF hC0.1.1.V (w_nzI (by decide) ?_)))))
  · rw [eRK, h9, rk_w0]
    rfl
  · rw [eRK, h9]
    rfl
  rw [hV, half_V (by omega)]
  let ST : Nat → ow_MS → Prop := fun k y => fr rdH z y ∧ plI y size ∧ ∃ N cl vv d9, y.1 93 = nI N ∧ N < 2 ^ 31 ∧ px9 y p size N cl vv d9 ∧ El9 p size MM k d9
  have c2 : ∀ (d s : Nat) (y : ow_MS), s + d = 2 ^ T.1 → ST (smH (bkF (LcN A sg) (dgq T.1 mi q)) r 0 s) y → Tt (fun K i => q_X13_rankOf K i 2 (nI r) (nI q) (nI p) (nI size) (nI T.1) (nI (rk9 p size (rwl9 MM (smH (bkF (LcN A sg) (dgq T.1 mi q)) r 0 s)))) (nI s) 0 0 n 0 0 y) Q := by
    intro d
    induction d with
    | zero =>
      intro s y hs hst
      refine u_X13_rankOf_2 ?_; unfold qm_X13_rankOf_2
      rw [shl1 (by omega)]
      refine w_leT (by omega) (by omega) (w_some ⟨hst.1, ?_⟩)
      rw [eRK, show s = 2 ^ T.1 by omega]
      rfl
    | succ d ih =>
      intro s y hs hst
      have hsl : s < 2 ^ T.1 := by omega
      have hL := hL9 s hsl
      have h2L : 2 ^ LcN A sg s ≤ 512 := two_mono (b := 9) hL
      have hps := pc_le hsl
      have c9 : ∀ (k : Nat) (x9 : Int32) (y : ow_MS), k = smH (bkF (LcN A sg) (dgq T.1 mi q)) r 0 (s + 1) → ST k y → Tt (fun K i => q_X13_rankOf K i 9 (nI r) (nI q) (nI p) (nI size) (nI T.1) (nI (rk9 p size (rwl9 MM k))) (nI s) x9 0 n 0 0 y) Q := by
        intro k x9 y hk hst
        refine u_X13_rankOf_9 ?_; unfold qm_X13_rankOf_9
        rw [nI_1]
        rw [hk] at hst ⊢
        exact ih (s + 1) y (by omega) hst
      have c3 : pc s = r → ∀ (d2 m : Nat) (y : ow_MS), m + d2 = 2 ^ LcN A sg s → ST (smH (bkF (LcN A sg) (dgq T.1 mi q)) r 0 s + cq9 (LcN A sg) (dgq T.1 mi q) s m) y → Tt (fun K i => q_X13_rankOf K i 3 (nI r) (nI q) (nI p) (nI size) (nI T.1) (nI (rk9 p size (rwl9 MM (smH (bkF (LcN A sg) (dgq T.1 mi q)) r 0 s + cq9 (LcN A sg) (dgq T.1 mi q) s m)))) (nI s) (nI m) 0 n 0 0 y) Q := by
        intro hpo d2
        induction d2 with
        | zero =>
          intro m y hm hst
          refine u_X13_rankOf_3 ?_; unfold qm_X13_rankOf_3
          rw [bc_pc (by omega)]
          refine w_ifT (by rw [hpo]) (w_rdI ml82 rfl (by omega) ((iF hst.1).2.1.1 s hsl) ?_)
          rw [shl1 (by omega)]
          refine w_leT (by omega) (by omega) (c9 _ _ y ?_ hst)
          rw [smH_s, if_pos hpo, show m = 2 ^ LcN A sg s by omega, cq9_all (by omega)]
        | succ d2 ih3 =>
          intro m y hm hst
          have hst0 := hst
          obtain ⟨hf, hI, N, cl, vv, d9, h93, hN31, hx, hE⟩ := hst
          have hml : m < 2 ^ LcN A sg s := by omega
          have hCy := iF hf
          obtain ⟨tq, hq80⟩ := tp_qOf hK' (stX_I hCy.2.1) hCy.2.2.2 hmi hsl hml
          have c8 : ∀ (k : Nat) (y : ow_MS), k = smH (bkF (LcN A sg) (dgq T.1 mi q)) r 0 s + cq9 (LcN A sg) (dgq T.1 mi q) s (m + 1) → ST k y → Tt (fun K i => q_X13_rankOf K i 8 (nI r) (nI q) (nI p) (nI size) (nI T.1) (nI (rk9 p size (rwl9 MM k))) (nI s) (nI m) 0 n 0 0 y) Q := by
            intro k y hk hst
            refine u_X13_rankOf_8 ?_; unfold qm_X13_rankOf_8
            rw [show nI m + 1 = nI (m + 1) from nI_1 _]
            rw [hk] at hst ⊢
            exact ih3 (m + 1) y (by omega) hst
          refine u_X13_rankOf_3 ?_; unfold qm_X13_rankOf_3
          rw [bc_pc (by omega)]
          refine w_ifT (by rw [hpo]) (w_rdI ml82 rfl (by omega) (hCy.2.1.1 s hsl) ?_)
          rw [shl1 (by omega)]
          refine w_leF (by omega) (by omega) (w_rdF hCy.2.2.2 (w_cs1 tq (fun a y1 e1 => ?_)))
          cases e1
          refine w_eqN (by omega) (by omega) (fun hqe => ?_) (fun hqe => c8 _ y ?_ hst0)
          · have hkp := (qv_kp hsl hc hmi hL hml).mp hqe
            have hva : va9 T.1 (LcN A sg) (dgq T.1 mi q) r s m := ⟨hsl, hpo, hml, hkp⟩
            have ecq : cq9 (LcN A sg) (dgq T.1 mi q) s m = cpN (pc m) m := by
              unfold cq9
              rw [hkp]
            have eix : smH (bkF (LcN A sg) (dgq T.1 mi q)) r 0 s + cq9 (LcN A sg) (dgq T.1 mi q) s m = ix9 (LcN A sg) (dgq T.1 mi q) s m := by
              rw [ecq]
              unfold ix9
              rw [hpo]
            have ecs : smH (bkF (LcN A sg) (dgq T.1 mi q)) r 0 s + cq9 (LcN A sg) (dgq T.1 mi q) s m + 1 = smH (bkF (LcN A sg) (dgq T.1 mi q)) r 0 s + cq9 (LcN A sg) (dgq T.1 mi q) s (m + 1) := by
              rw [cq9_s, if_pos hkp]
              omega
            generalize hkk : smH (bkF (LcN A sg) (dgq T.1 mi q)) r 0 s + cq9 (LcN A sg) (dgq T.1 mi q) s m = kk at hE eix ecs
            have c7 : ∀ (x10 : Int32) (ρ : Nat) (y : ow_MS), rk9 p size (rwl9 MM (kk + 1)) = rk9 p size (rwl9 MM kk) + ρ → ST (kk + 1) y → Tt (fun K i => q_X13_rankOf K i 7 (nI r) (nI q) (nI p) (nI size) (nI T.1) (nI (rk9 p size (rwl9 MM kk))) (nI s) (nI m) x10 n (nI ρ) (nI (rk9 p size (rwl9 MM kk))) y) Q := by
              intro x10 ρ y he hst
              refine u_X13_rankOf_7 ?_; unfold qm_X13_rankOf_7
              rw [nI_add, ← he]
              exact c8 _ y ecs hst
            have c5 : ∀ (d3 x : Nat) (y : ow_MS), x + d3 = T.1 → fr rdH z y → plI y size → y.1 93 = nI N → px9 y p size N cl vv d9 → wkR y p size (p + x * (2 * p)) (row9 (gG9 A) (LsR A sg) (LcN A sg) (fun y => gV9 (y, 0)) (fun y => gV9 (prA9 A (y, 0))) (dgq T.1 mi q) s m x) → Tt (fun K i => q_X13_rankOf K i 5 (nI r) (nI q) (nI p) (nI size) (nI T.1) (nI (rk9 p size (rwl9 MM kk))) (nI s) (nI m) (nI x) n 0 0 y) Q := by
              intro d3
              induction d3 with
              | zero =>
                intro x y hx9 hf hI h93 hx hw
                have hb : p + x * (2 * p) ≤ 20000 := by
                  have := Nat.mul_le_mul (show x ≤ 8 by omega) (show 2 * p ≤ 1994 by omega)
                  omega
                have hw2 : wkR y p size (p + x * (2 * p)) (MM kk) := wkR_cg hw (Nat.le_refl _) (fun j hj => by
                  rw [← hMM, eix, MT_row hC hLT (by omega) hva (by rw [hsz]; exact hj), show x = T.1 by omega, Int.sub_self]
                  exact Int.dvd_zero _)
                refine u_X13_rankOf_5 ?_; unfold qm_X13_rankOf_5
                refine w_leT (by omega) (by omega) (w_cs1 (re_reduced hp hp9 hsz2 hb (by omega) hI h93 hN31 hx hE hw2) ?_)
                rintro a y1 ⟨I1, f1, N1, cl1, vv1, d1, ρ, r1, r2, r3, r4, r5, r6, r7⟩
                dsimp only at I1 f1 r1 r3 r5
                have st : ST (kk + 1) y1 := ⟨fr_tr hf f1, I1, N1, cl1, vv1, d1, r1, r2, r3, r4⟩
                rw [r5]
                rcases (show ρ = 0 ∨ ρ = 1 by omega) with e | e
                · rw [e] at r7 ⊢
                  exact w_ifT rfl (c7 _ 0 y1 r7 st)
                · rw [e] at r7 ⊢
                  exact w_ifF (by decide) (c7 _ 1 y1 r7 st)
              | succ d3 ih5 =>
                intro x y hx9 hf hI h93 hx hw
                have hCy := iF hf
                have hw1 : p + x * (2 * p) ≤ p + (x + 1) * (2 * p) := by rw [Nat.add_mul]; omega
                have c6 : ∀ (y : ow_MS), fr rdH z y → plI y size → y.1 93 = nI N → px9 y p size N cl vv d9 → wkR y p size (p + (x + 1) * (2 * p)) (row9 (gG9 A) (LsR A sg) (LcN A sg) (fun y => gV9 (y, 0)) (fun y => gV9 (prA9 A (y, 0))) (dgq T.1 mi q) s m (x + 1)) → Tt (fun K i => q_X13_rankOf K i 6 (nI r) (nI q) (nI p) (nI size) (nI T.1) (nI (rk9 p size (rwl9 MM kk))) (nI s) (nI m) (nI x) n 0 0 y) Q := by
                  intro y a1 a2 a3 a4 a5
                  refine u_X13_rankOf_6 ?_; unfold qm_X13_rankOf_6
                  rw [show nI x + 1 = nI (x + 1) from nI_1 _]
                  exact ih5 (x + 1) y (by omega) a1 a2 a3 a4 a5
                refine u_X13_rankOf_5 ?_; unfold qm_X13_rankOf_5
                rw [bit_nI (by omega) (by omega)]
                refine w_leF (by omega) (by omega) (w_eqN (b := 0) (by unfold btN; omega) (by omega) (fun h0 => w_cs0 (re_step (q := q) (r := r) (m := m) (b := p + x * (2 * p)) (v9 := row9 (gG9 A) (LsR A sg) (LcN A sg) (fun y => gV9 (y, 0)) (fun y => gV9 (prA9 A (y, 0))) (dgq T.1 mi q) s m x) hn hK' hCy.1 hCy.2.1 hCy.2.2.1 hmi hN hT hv hbd hC hva (by omega) h0 hp2 hp9 (by rw [hsz]; exact hw)) ?_) (fun h0 => c6 y hf hI h93 hx (wkR_cg hw hw1 (fun j _ => ?_))))
                · rintro y1 ⟨w1, f1⟩
                  rw [hsz] at w1
                  have e93 : y1.1 93 = nI N := by
                    rw [(f1 93 (by omega)).1]
                    exact h93
                  refine c6 y1 (fr_tr hf (fr_mono (fun g hg => by unfold rdH; omega) f1)) (plI_89 f1 hI) e93 (px_fr f1 (by omega) hx) (wkR_cg w1 (by rw [Nat.add_mul]; omega) (fun j _ => ?_))
                  have e0 : rwX (gG9 A) (LsR A sg) (LcN A sg) (fun y => gV9 (y, 0)) (fun y => gV9 (prA9 A (y, 0))) (dgq T.1 mi q) s m x j = par9 (tb s) x * cnI (ix9 (LcN A sg) (dgq T.1 mi q) (s + 2 ^ x)) j (di9 (gG9 A) (LsR A sg) (LcN A sg) (fun y => gV9 (y, 0)) (fun y => gV9 (prA9 A (y, 0))) s m x) := by
                    unfold rwX
                    rw [if_neg (by omega)]
                  show (p : Int) ∣ _ - (row9 (gG9 A) (LsR A sg) (LcN A sg) (fun y => gV9 (y, 0)) (fun y => gV9 (prA9 A (y, 0))) (dgq T.1 mi q) s m x j + rwX (gG9 A) (LsR A sg) (LcN A sg) (fun y => gV9 (y, 0)) (fun y => gV9 (prA9 A (y, 0))) (dgq T.1 mi q) s m x j)
                  rw [e0, Int.sub_self]
                  exact Int.dvd_zero _
                · have e0 : rwX (gG9 A) (LsR A sg) (LcN A sg) (fun y => gV9 (y, 0)) (fun y => gV9 (prA9 A (y, 0))) (dgq T.1 mi q) s m x j = 0 := by
                    unfold rwX
                    exact if_pos ((bt_01 s x).resolve_left h0)
                  show (p : Int) ∣ row9 (gG9 A) (LsR A sg) (LcN A sg) (fun y => gV9 (y, 0)) (fun y => gV9 (prA9 A (y, 0))) (dgq T.1 mi q) s m x j - (row9 (gG9 A) (LsR A sg) (LcN A sg) (fun y => gV9 (y, 0)) (fun y => gV9 (prA9 A (y, 0))) (dgq T.1 mi q) s m x j + rwX (gG9 A) (LsR A sg) (LcN A sg) (fun y => gV9 (y, 0)) (fun y => gV9 (prA9 A (y, 0))) (dgq T.1 mi q) s m x j)
                  rw [e0, Int.add_zero, Int.sub_self]
                  exact Int.dvd_zero _
            have c4 : ∀ (d3 k : Nat) (y : ow_MS), k + d3 = size → fr rdH z y → plI y size → y.1 93 = nI N → px9 y p size N cl vv d9 → (∀ i, i < k → y.2.1 89 i = 0) → Tt (fun K i => q_X13_rankOf K i 4 (nI r) (nI q) (nI p) (nI size) (nI T.1) (nI (rk9 p size (rwl9 MM kk))) (nI s) (nI m) (nI k) n 0 0 y) Q := by
              intro d3
              induction d3 with
              | zero =>
                intro k y hk hf hI h93 hx h0
                refine u_X13_rankOf_4 ?_; unfold qm_X13_rankOf_4
                exact w_leT (by omega) (by omega) (c5 T.1 0 y (by omega) hf hI h93 hx (fun i hi => ⟨0, h0 i (by omega), Nat.zero_le _, Int.dvd_zero _⟩))
              | succ d3 ih4 =>
                intro k y hk hf hI h93 hx h0
                refine u_X13_rankOf_4 ?_; unfold qm_X13_rankOf_4
                rw [show nI k + 1 = nI (k + 1) from nI_1 _]
                refine w_leF (by omega) (by omega) (w_wrI ml89 rfl (by omega) (ih4 (k + 1) _ (by omega) (fr_I2 hf (by unfold rdH; omega)) (plI_89 (fr_I rfl) hI) h93 (px_fr (fr_I (P := fun g => g = 89) rfl) (by omega) hx) (fun i hi => ?_)))
                by_cases hik : i = k
                · rw [hik, po_usI_at]
                · exact rd_ne hik (h0 i (by omega))
            exact c4 size 0 y (by omega) hf hI h93 hx (fun i hi => absurd hi (by omega))
          · rw [cq9_s, if_neg (fun h9 => hqe ((qv_kp hsl hc hmi hL hml).mpr h9)), Nat.add_zero]
      refine u_X13_rankOf_2 ?_; unfold qm_X13_rankOf_2
      rw [shl1 (by omega)]
      refine w_leF (by omega) (by omega) ?_
      by_cases hpo : pc s = r
      · have := c3 hpo (2 ^ LcN A sg s) 0 y (by omega) (by rw [cq9_0, Nat.add_zero]; exact hst)
        rw [cq9_0, Nat.add_zero] at this
        exact this
      · refine u_X13_rankOf_3 ?_; unfold qm_X13_rankOf_3
        rw [bc_pc (by omega)]
        refine w_ifF (fun h9 => hpo ((nI_eq (by omega) (by omega)).mp h9)) (c9 _ _ y ?_ hst)
        rw [smH_s, if_neg hpo, Nat.add_zero]
  have c1 : ∀ (d k : Nat) (y : ow_MS), k + d = size → fr rdH z y → (∀ i, i < k → y.2.1 90 i = -1) → Tt (fun K i => q_X13_rankOf K i 1 (nI r) (nI q) (nI p) (nI size) (nI T.1) (nI k) 0 0 0 n 0 0 y) Q := by
    intro d
    induction d with
    | zero =>
      intro k y hk hf h9
      have hk : k = size := by omega
      subst hk
      refine u_X13_rankOf_1 ?_; unfold qm_X13_rankOf_1
      refine w_leT (by omega) (by omega) (w_wrF (c2 (2 ^ T.1) 0 _ (by omega) ⟨fr_F2 hf (by unfold rdH; omega), ⟨0, po_usF_at, ?_, fun i hi => Or.inl (h9 i hi), fun i hi => absurd hi (by omega)⟩, 0, fun _ => 0, fun _ => 0, fun _ _ => 0, po_usF_at, by omega, ⟨fun i hi => absurd hi (Nat.not_lt_zero _), fun i hi => Or.inl ⟨h9 i hi, fun j _ => Int.dvd_zero _⟩⟩, El_0⟩))
      rw [unk_all (y := usF y 93 0) k h9]
      omega
    | succ d ih =>
      intro k y hk hf h9
      refine u_X13_rankOf_1 ?_; unfold qm_X13_rankOf_1
      rw [nI_1]
      refine w_leF (by omega) (by omega) (w_wrI ml90 rfl (by omega) (ih (k + 1) _ (by omega) (fr_I2 hf (by unfold rdH; omega)) (fun i hi => ?_)))
      by_cases hik : i = k
      · rw [hik, po_usI_at]
      · exact rd_ne hik (h9 i (by omega))
  exact c1 size 0 z (by omega) fr_rf (fun i hi => absurd hi (by omega))
end XCK7
