section
/-! 99zzzzzzzzt.ptw -/
/-! two crossings of unlike signs go: plane nets stay plane -/
/-- the first visit behind v that is not of D -/
def pthD (N : Nat → Nat) (D : Nat → Prop) (a w : Nat) : Prop := ∀ R : Nat → Prop, R a → (∀ d, D d → R d → R (N d)) → R w
theorem pth_u {N : Nat → Nat} {D : Nat → Prop} {a w w' : Nat} (h : pthD N D a w) (h' : pthD N D a w') (hw : ¬ D w) (hw' : ¬ D w') : w' = w := by
  have step : ∀ u, D u → pthD N D u w → pthD N D (N u) w := by
    intro u hu hF R r1 r2
    have := hF (fun z => z = u ∨ pthD N D (N u) z) (Or.inl rfl) (fun z hz hR => by
      rcases hR with e | hR
      · right
        rw [e]
        exact fun R' q1 _ => q1
      · exact Or.inr (fun R' q1 q2 => q2 z hz (hR R' q1 q2)))
    rcases this with e | this
    · exact absurd (by rw [e]; exact hu) hw
    · exact this R r1 r2
  have := h' (fun u => pthD N D u w) h (fun d hd hp => step d hd hp)
  exact (this (fun z => z = w') rfl (fun d hd e => absurd (by rw [← e]; exact hd) hw')).symm
section PTW
variable {T : ow_NT} {x y : Nat}
theorem pth_skx {N : Nat → Nat} {D : Nat → Prop} {a w : Nat} (hd0 : D (2 * x)) (hd1 : D (2 * x + 1)) (h : pthD N D a w) : pthD N D a (skx N x w) := by
  intro R r1 r2
  have hw := h R r1 r2
  unfold skx
  by_cases e0 : w = 2 * x
  · rw [if_pos e0]
    rw [e0] at hw
    have h1 := r2 _ hd0 hw
    by_cases e1 : N (2 * x) = 2 * x + 1
    · rw [if_pos e1]
      rw [e1] at h1
      exact r2 _ hd1 h1
    · rw [if_neg e1]
      exact h1
  · rw [if_neg e0]
    by_cases e1 : w = 2 * x + 1
    · rw [if_pos e1]
      rw [e1] at hw
      have h1 := r2 _ hd1 hw
      by_cases e2 : N (2 * x + 1) = 2 * x
      · rw [if_pos e2]
        rw [e2] at h1
        exact r2 _ hd0 h1
      · rw [if_neg e2]
        exact h1
    · rw [if_neg e1]
      exact hw
/-- two crossings taken out: what comes behind a visit -/
theorem rm2_next (hv : vn T.1 T.2.2.1) (hc : T.1 ≤ 12) (hx : x < T.1) (hy : y < x) {v : Nat} (hvl : v < 2 * T.1) (hvx : v / 2 ≠ x) (hvy : v / 2 ≠ y) : ∃ w, w < 2 * T.1 ∧ w / 2 ≠ x ∧ w / 2 ≠ y ∧ (nt_rm (nt_rm T x) y).2.2.1.1 (rnx (T.1 - 1) y (rnx T.1 x v)) = rnx (T.1 - 1) y (rnx T.1 x w) ∧ pthD T.2.2.1.1 (fun d => d / 2 = x ∨ d / 2 = y) (T.2.2.1.1 v) w := by
  have hv1 := vn_rmT hv hx
  have hc1 : (nt_rm T x).1 ≤ 12 := by show T.1 - 1 ≤ 12; omega
  have hy1 : y < (nt_rm T x).1 := by show y < T.1 - 1; omega
  obtain ⟨s1, s2⟩ := skx_ne hv hx hvl hvx
  obtain ⟨v1, v2⟩ := rnx_f hx hvl hvx
  have ryy : ∀ u, u < 2 * T.1 → u / 2 ≠ x → (rnx T.1 x u / 2 = y ↔ u / 2 = y) := fun u hu hux => by
    unfold rnx
    split <;> omega
  have ry0 : rnx T.1 x (2 * y) = 2 * y := by unfold rnx; rw [if_neg (by omega)]
  have ry1 : rnx T.1 x (2 * y + 1) = 2 * y + 1 := by unfold rnx; rw [if_neg (by omega)]
  have n0 := rm_next hv hc hx (show 2 * y < 2 * T.1 by omega) (by omega)
  have n1 := rm_next hv hc hx (show 2 * y + 1 < 2 * T.1 by omega) (by omega)
  rw [ry0] at n0
  rw [ry1] at n1
  have nv := rm_next hv hc hx hvl hvx
  have step2 := rm_next (T := nt_rm T x) hv1 hc1 hy1 v2 (fun e => hvy ((ryy v hvl hvx).mp e))
  obtain ⟨t1, t2⟩ := skx_ne (T := nt_rm T x) hv1 hy1 v2 (fun e => hvy ((ryy v hvl hvx).mp e))
  have eC : (nt_rm T x).1 = T.1 - 1 := rfl
  rw [eC] at step2 t1
  have dx0 : (fun d => d / 2 = x ∨ d / 2 = y) (2 * x) := Or.inl (by omega)
  have dx1 : (fun d => d / 2 = x ∨ d / 2 = y) (2 * x + 1) := Or.inl (by omega)
  have dy0 : (fun d => d / 2 = x ∨ d / 2 = y) (2 * y) := Or.inr (by omega)
  have dy1 : (fun d => d / 2 = x ∨ d / 2 = y) (2 * y + 1) := Or.inr (by omega)
  have P1 : pthD T.2.2.1.1 (fun d => d / 2 = x ∨ d / 2 = y) (T.2.2.1.1 v) (skx T.2.2.1.1 x (T.2.2.1.1 v)) := pth_skx dx0 dx1 (fun R r1 _ => r1)
  have Py : ∀ u, (u = 2 * y ∨ u = 2 * y + 1) → pthD T.2.2.1.1 (fun d => d / 2 = x ∨ d / 2 = y) (T.2.2.1.1 v) u → pthD T.2.2.1.1 (fun d => d / 2 = x ∨ d / 2 = y) (T.2.2.1.1 v) (skx T.2.2.1.1 x (T.2.2.1.1 u)) := fun u hu hp => pth_skx dx0 dx1 (fun R r1 r2 => r2 u (by rcases hu with e | e <;> rw [e]; exact dy0; exact dy1) (hp R r1 r2))
  -- the visit that comes then
  have fin : ∀ k, skx (nt_rm T x).2.2.1.1 y ((nt_rm T x).2.2.1.1 (rnx T.1 x v)) = k → ∃ w, w < 2 * T.1 ∧ w / 2 ≠ x ∧ k = rnx T.1 x w ∧ pthD T.2.2.1.1 (fun d => d / 2 = x ∨ d / 2 = y) (T.2.2.1.1 v) w := by
    intro k hk
    rw [nv] at hk
    have z0 := skx_ne hv hx (show 2 * y < 2 * T.1 by omega) (show 2 * y / 2 ≠ x by omega)
    have z1 := skx_ne hv hx (show 2 * y + 1 < 2 * T.1 by omega) (show (2 * y + 1) / 2 ≠ x by omega)
    have un : ∀ u u', u < 2 * T.1 → u / 2 ≠ x → u' < 2 * T.1 → u' / 2 ≠ x → rnx T.1 x u = rnx T.1 x u' → u = u' := fun u u' h1 h2 h3 h4 e => by
      rw [← (rnx_f hx h1 h2).1, e, (rnx_f hx h3 h4).1]
    unfold skx at hk
    rw [n0, n1] at hk
    have hk : (if rnx T.1 x (skx T.2.2.1.1 x (T.2.2.1.1 v)) = 2 * y then (if rnx T.1 x (skx T.2.2.1.1 x (T.2.2.1.1 (2 * y))) = 2 * y + 1 then rnx T.1 x (skx T.2.2.1.1 x (T.2.2.1.1 (2 * y + 1))) else rnx T.1 x (skx T.2.2.1.1 x (T.2.2.1.1 (2 * y)))) else if rnx T.1 x (skx T.2.2.1.1 x (T.2.2.1.1 v)) = 2 * y + 1 then (if rnx T.1 x (skx T.2.2.1.1 x (T.2.2.1.1 (2 * y + 1))) = 2 * y then rnx T.1 x (skx T.2.2.1.1 x (T.2.2.1.1 (2 * y))) else rnx T.1 x (skx T.2.2.1.1 x (T.2.2.1.1 (2 * y + 1)))) else rnx T.1 x (skx T.2.2.1.1 x (T.2.2.1.1 v))) = k := hk
    by_cases e0 : rnx T.1 x (skx T.2.2.1.1 x (T.2.2.1.1 v)) = 2 * y
    · rw [if_pos e0] at hk
      have e0' : skx T.2.2.1.1 x (T.2.2.1.1 v) = 2 * y := un _ _ s1 s2 (by omega) (by omega) (e0.trans ry0.symm)
      have Q0 := Py (2 * y) (Or.inl rfl) (by rw [← e0']; exact P1)
      by_cases e1 : rnx T.1 x (skx T.2.2.1.1 x (T.2.2.1.1 (2 * y))) = 2 * y + 1
      · rw [if_pos e1] at hk
        have e1' : skx T.2.2.1.1 x (T.2.2.1.1 (2 * y)) = 2 * y + 1 := un _ _ z0.1 z0.2 (by omega) (by omega) (e1.trans ry1.symm)
        exact ⟨_, z1.1, z1.2, hk.symm, Py (2 * y + 1) (Or.inr rfl) (by rw [← e1']; exact Q0)⟩
      · rw [if_neg e1] at hk
        exact ⟨_, z0.1, z0.2, hk.symm, Q0⟩
    · rw [if_neg e0] at hk
      by_cases e1 : rnx T.1 x (skx T.2.2.1.1 x (T.2.2.1.1 v)) = 2 * y + 1
      · rw [if_pos e1] at hk
        have e1' : skx T.2.2.1.1 x (T.2.2.1.1 v) = 2 * y + 1 := un _ _ s1 s2 (by omega) (by omega) (e1.trans ry1.symm)
        have Q1 := Py (2 * y + 1) (Or.inr rfl) (by rw [← e1']; exact P1)
        by_cases e2 : rnx T.1 x (skx T.2.2.1.1 x (T.2.2.1.1 (2 * y + 1))) = 2 * y
        · rw [if_pos e2] at hk
          have e2' : skx T.2.2.1.1 x (T.2.2.1.1 (2 * y + 1)) = 2 * y := un _ _ z1.1 z1.2 (by omega) (by omega) (e2.trans ry0.symm)
          exact ⟨_, z0.1, z0.2, hk.symm, Py (2 * y) (Or.inl rfl) (by rw [← e2']; exact Q1)⟩
        · rw [if_neg e2] at hk
          exact ⟨_, z1.1, z1.2, hk.symm, Q1⟩
      · rw [if_neg e1] at hk
        exact ⟨_, s1, s2, hk.symm, P1⟩
  obtain ⟨w, w1, w2, w3, w4⟩ := fin _ rfl
  refine ⟨w, w1, w2, fun e => t2 ?_, ?_, w4⟩
  · rw [w3]
    exact (ryy w w1 w2).mpr e
  · rw [step2, w3]
/-- a net that shows what is left, and the two crossings apart, is plane: what is left is plane -/
theorem pl_rm2 (hv : vn T.1 T.2.2.1) (hc : T.1 ≤ 12) (hx : x < T.1) (hy : y < x) {S2 : ow_NP} (hv2 : vn T.1 S2) (h2 : ∀ v, v < 2 * T.1 → v / 2 ≠ x → v / 2 ≠ y → S2.1 v / 2 ≠ x ∧ S2.1 v / 2 ≠ y ∧ pthD T.2.2.1.1 (fun d => d / 2 = x ∨ d / 2 = y) (T.2.2.1.1 v) (S2.1 v)) (hp : pn_pl T.1 S2 (stG T.2.2.2)) : nt_plane (nt_rm (nt_rm T x) y) = true := by
  have hv1 := vn_rmT hv hx
  have hy1 : y < (nt_rm T x).1 := by show y < T.1 - 1; omega
  have hc1 : (nt_rm (nt_rm T x) y).1 ≤ 12 := by show T.1 - 1 - 1 ≤ 12; omega
  have hvA := vn_rmT hv1 hy1
  rw [plane_iff hvA hc1]
  have eC : (nt_rm T x).1 = T.1 - 1 := rfl
  have bk : ∀ k, k < 2 * (T.1 - 1 - 1) → rnx (T.1 - 1) y (rnx T.1 x (rnv2 T.1 x (rnv2 (T.1 - 1) y k))) = k ∧ rnv2 T.1 x (rnv2 (T.1 - 1) y k) < 2 * T.1 ∧ rnv2 T.1 x (rnv2 (T.1 - 1) y k) / 2 ≠ x ∧ rnv2 T.1 x (rnv2 (T.1 - 1) y k) / 2 ≠ y := fun k hk => by
    obtain ⟨a1, a2, a3⟩ := rnx_b (T := nt_rm T x) hy1 (k := k) hk
    rw [eC] at a1 a2 a3
    obtain ⟨b1, b2, b3⟩ := rnx_b hx (k := rnv2 (T.1 - 1) y k) (by omega)
    refine ⟨by rw [b1, a1], b2, b3, fun e => a3 ?_⟩
    generalize rnv2 (T.1 - 1) y k = k' at *
    unfold rnv2 at e
    split at e <;> omega
  have sgv : ∀ (U : ow_NT) (z k : Nat), z < U.1 → k < 2 * (U.1 - 1) → (nt_rm U z).2.2.2 (k / 2) = U.2.2.2 (rnv2 U.1 z k / 2) ∧ rnv2 U.1 z k % 2 = k % 2 := fun U z k hz hk => by
    refine ⟨?_, by unfold rnv2; split <;> omega⟩
    show np_rmG U.2.2.2 z (U.1 - 1) (k / 2) = _
    unfold np_rmG rnv2
    by_cases e : k / 2 = z
    · rw [if_pos e]
      by_cases ex : z = U.1 - 1
      · omega
      · rw [if_neg ex, show (2 * (U.1 - 1) + k % 2) / 2 = U.1 - 1 by omega]
        exact if_pos e
    · rw [if_neg e]
      by_cases ex : z = U.1 - 1
      · rw [if_pos ex]
      · rw [if_neg ex]
        exact if_neg e
  refine sub_pl (ψ := fun k => rnv2 T.1 x (rnv2 (T.1 - 1) y k)) hv2 stG_fl hvA (fun k hk => ?_) (fun u v hu hv9 e => ?_) hp
  · have hk : k < 2 * (T.1 - 1 - 1) := hk
    obtain ⟨b1, b2, b3, b4⟩ := bk k hk
    refine ⟨b2, ?_, ?_, ?_⟩
    · obtain ⟨w, w1, w2, w3, w4, w5⟩ := rm2_next hv hc hx hy b2 b3 b4
      obtain ⟨q1, q2, q3⟩ := h2 _ b2 b3 b4
      have ew := pth_u w5 q3 (fun h9 => h9.elim w2 w3) (fun h9 => h9.elim q1 q2)
      rw [b1] at w4
      show S2.1 (rnv2 T.1 x (rnv2 (T.1 - 1) y k)) = rnv2 T.1 x (rnv2 (T.1 - 1) y ((nt_rm (nt_rm T x) y).2.2.1.1 k))
      rw [ew, w4]
      obtain ⟨f1, f2⟩ := rnx_f hx w1 w2
      have hr : rnx T.1 x w / 2 ≠ y := fun e => w3 (by unfold rnx at e; split at e <;> omega)
      have := (rnx_f (T := nt_rm T x) hy1 f2 hr).1
      rw [eC] at this
      rw [this, f1]
    · have mr : ∀ c z k, mt (rnv2 c z k) = rnv2 c z (mt k) := fun c z k => by
        unfold rnv2
        rw [mt_h2]
        by_cases e : k / 2 = z
        · rw [if_pos e, if_pos e]
          unfold mt
          split <;> split <;> omega
        · rw [if_neg e, if_neg e]
      show mt (rnv2 T.1 x (rnv2 (T.1 - 1) y k)) = rnv2 T.1 x (rnv2 (T.1 - 1) y (mt k))
      rw [mr, mr]
    · obtain ⟨g1, g2⟩ := sgv (nt_rm T x) y k hy1 hk
      rw [eC] at g1 g2
      have a2 := (rnx_b (T := nt_rm T x) hy1 (k := k) hk).2.1
      rw [eC] at a2
      obtain ⟨g3, g4⟩ := sgv T x (rnv2 (T.1 - 1) y k) hx a2
      show stG T.2.2.2 (rnv2 T.1 x (rnv2 (T.1 - 1) y k)) = stG (nt_rm (nt_rm T x) y).2.2.2 k
      unfold stG
      rw [g1, g3, g4, g2]
  · have h1 := (bk u hu).1
    have h3 := (bk v hv9).1
    rw [← h1, e, h3]
/-- the visits of two crossings, one behind the other over and under, laid apart -/
theorem pl_pair0 {c : Nat} {S : ow_NP} {b : Nat → Bool} {p1 p2 q1 q2 : Nat} (hv : vn c S) (hb : pn_fl b) (hp : pn_pl c S b) (l1 : p1 < 2 * c) (l2 : p2 < 2 * c) (l3 : q1 < 2 * c) (l4 : q2 < 2 * c) (hpq : S.1 p1 = p2) (hqq : S.1 q1 = q2) (hpp : p1 ≠ p2) (hbb : b p2 = !b p1) (hm : mt p1 = q1 ∧ mt p2 = q2 ∨ mt p1 = q2 ∧ mt p2 = q1) (hd : p1 ≠ q1 ∧ p1 ≠ q2 ∧ p2 ≠ q1 ∧ p2 ≠ q2 ∧ q1 ≠ q2) : ∃ S2, vn c S2 ∧ pn_pl c S2 b ∧ ∀ v, v < 2 * c → v ≠ p1 → v ≠ p2 → v ≠ q1 → v ≠ q2 → S2.1 v ≠ p1 ∧ S2.1 v ≠ p2 ∧ S2.1 v ≠ q1 ∧ S2.1 v ≠ q2 ∧ pthD S.1 (fun d => d = p1 ∨ d = p2 ∨ d = q1 ∨ d = q2) (S.1 v) (S2.1 v) := by
  obtain ⟨d1, d2, d3, d4, d5⟩ := hd
  obtain ⟨a1, a2, a3, a4⟩ := hv p1 l1
  have n2 := (hv p2 l2).1
  -- the ring of the visits over
  have first : ∃ S1, vn c S1 ∧ pn_pl c S1 b ∧ S1.1 p2 = p1 ∧ S1.1 p1 = p2 ∧ ∀ v, v < 2 * c → v ≠ p1 → v ≠ p2 → S1.1 v = if S.1 v = p1 then S.1 p2 else S.1 v := by
    by_cases e : S.2 p1 = p2
    · have e1 : S.1 p2 = p1 := by rw [← e]; exact a4
      refine ⟨S, hv, hp, e1, hpq, fun v hvl g1 g2 => ?_⟩
      rw [if_neg (fun h9 => g2 (vn_inj hv hvl l2 (h9.trans e1.symm)))]
    · have hne : S.2 p1 ≠ p1 := fun e9 => by
        rw [e9] at a4
        exact hpp (a4.symm.trans hpq)
      refine ⟨np_exchange S (S.2 p1) p2, vn_exchange hv a2 l2, pn_exch hv hb hp a2 l2 e (Or.inr ?_), ?_, ?_, fun v hvl g1 g2 => ?_⟩
      · have f0 : pn_ph S b (2 * S.2 p1) = pn_rt b (2 * p1 + 1) := by
          unfold pn_ph
          rw [pn_al0, a4]
        have f1 : pn_ph S b (2 * S.1 p2 + 1) = pn_rt b (2 * p2) := by
          unfold pn_ph
          rw [pn_al1, (hv p2 l2).2.2.1]
        have g0 : pn_ph S b (2 * q1) = pn_rt b (2 * q2 + 1) := by
          unfold pn_ph
          rw [pn_al0, hqq]
        have g1 : pn_ph S b (2 * q2 + 1) = pn_rt b (2 * q1) := by
          unfold pn_ph
          rw [pn_al1, ← hqq, (hv q1 l3).2.2.1]
        rw [a4]
        have back : pm_or (pn_ph S b) (2 * S.1 p2 + 1) (2 * p1 + 1) → pm_or (pn_ph S b) (2 * p1 + 1) (2 * S.1 p2 + 1) := fun h9 => or_sy (n := 4 * c) (fun d hd => pn_ph_lt hv hd) (fun d e hd he q => pn_ph_inj hv hb hd he q) (by omega) h9
        rcases hm with ⟨m1, m2⟩ | ⟨m1, m2⟩
        · have bq1 : b q1 = !b p1 := by rw [← m1]; exact hb p1
          have bq2 : b q2 = !b p2 := by rw [← m2]; exact hb p2
          have mq1 : mt q1 = p1 := by rw [← m1, mt_mt]
          have mq2 : mt q2 = p2 := by rw [← m2, mt_mt]
          cases e1 : b p1 with
          | true =>
            left
            refine ⟨2, ?_⟩
            show pn_ph S b (pn_ph S b (2 * S.2 p1)) = 2 * p2
            rw [f0, pn_at1, e1, if_pos rfl, m1, g0, pn_at1, bq2, hbb, e1, mq2]
            rfl
          | false =>
            right
            refine back ⟨2, ?_⟩
            show pn_ph S b (pn_ph S b (2 * S.1 p2 + 1)) = 2 * p1 + 1
            rw [f1, pn_at0, hbb, e1, m2]
            show pn_ph S b (2 * q2 + 1) = _
            rw [g1, pn_at0, bq1, e1, mq1]
            rfl
        · have bq1 : b q1 = !b p2 := by rw [← m2]; exact hb p2
          have bq2 : b q2 = !b p1 := by rw [← m1]; exact hb p1
          have mq1 : mt q1 = p2 := by rw [← m2, mt_mt]
          have mq2 : mt q2 = p1 := by rw [← m1, mt_mt]
          cases e1 : b p1 with
          | true =>
            right
            refine back ⟨2, ?_⟩
            show pn_ph S b (pn_ph S b (2 * S.1 p2 + 1)) = 2 * p1 + 1
            rw [f1, pn_at0, hbb, e1, m2]
            show pn_ph S b (2 * q1) = _
            rw [g0, pn_at1, bq2, e1, mq2]
            rfl
          | false =>
            left
            refine ⟨2, ?_⟩
            show pn_ph S b (pn_ph S b (2 * S.2 p1)) = 2 * p2
            rw [f0, pn_at1, e1, m1]
            show pn_ph S b (2 * q2 + 1) = _
            rw [g1, pn_at0, bq1, hbb, e1, mq1]
            rfl
      · rw [np_exchange_1, if_pos rfl, a4]
      · rw [np_exchange_1, if_neg hpp, if_neg (fun h9 => hne h9.symm), hpq]
      · rw [np_exchange_1, if_neg g2]
        by_cases h9 : S.1 v = p1
        · have : v = S.2 p1 := by rw [← h9, (hv v hvl).2.2.1]
          rw [if_pos this, if_pos h9]
        · rw [if_neg (fun h8 => h9 (by rw [h8, a4])), if_neg h9]
  obtain ⟨S1, hv1, hp1, r1, r2, r3⟩ := first
  have s1 : S1.1 q1 = q2 := by
    rw [r3 q1 l3 (fun e => d1 e.symm) (fun e => d3 e.symm), hqq, if_neg (fun e => d2 e.symm)]
  obtain ⟨c1, c2, c3, c4⟩ := hv1 q1 l3
  have m21 : (mt p1 = q1 ∨ mt p1 = q2) ∧ (mt p2 = q1 ∨ mt p2 = q2) ∧ (mt q1 = p1 ∨ mt q1 = p2) ∧ (mt q2 = p1 ∨ mt q2 = p2) := by
    rcases hm with ⟨m1, m2⟩ | ⟨m1, m2⟩
    · exact ⟨Or.inl m1, Or.inr m2, Or.inl (by rw [← m1, mt_mt]), Or.inr (by rw [← m2, mt_mt])⟩
    · exact ⟨Or.inr m1, Or.inl m2, Or.inr (by rw [← m2, mt_mt]), Or.inl (by rw [← m1, mt_mt])⟩
  have second : ∃ S2, vn c S2 ∧ pn_pl c S2 b ∧ ∀ v, v < 2 * c → v ≠ q1 → v ≠ q2 → S2.1 v = if S1.1 v = q1 then S1.1 q2 else S1.1 v := by
    by_cases e : S1.2 q1 = q2
    · have e1 : S1.1 q2 = q1 := by rw [← e]; exact c4
      refine ⟨S1, hv1, hp1, fun v hvl g1 g2 => ?_⟩
      rw [if_neg (fun h9 => g2 (vn_inj hv1 hvl l4 (h9.trans e1.symm)))]
    · have hne1 : S1.2 q1 ≠ q1 := fun e9 => by
        rw [e9] at c4
        exact d5 (c4.symm.trans s1)
      have hne2 : S1.2 q1 ≠ p1 := fun e9 => by
        rw [e9, r2] at c4
        exact d3 c4
      have hne3 : S1.2 q1 ≠ p2 := fun e9 => by
        rw [e9, r1] at c4
        exact d1 c4
      have hv2 := vn_exchange hv1 c2 l4
      have x1 : (np_exchange S1 (S1.2 q1) q2).1 p1 = p2 := by rw [np_exchange_1, if_neg d2, if_neg (fun h9 => hne2 h9.symm), r2]
      have x2 : (np_exchange S1 (S1.2 q1) q2).1 p2 = p1 := by rw [np_exchange_1, if_neg d4, if_neg (fun h9 => hne3 h9.symm), r1]
      have x3 : (np_exchange S1 (S1.2 q1) q2).1 q1 = q2 := by rw [np_exchange_1, if_neg d5, if_neg (fun h9 => hne1 h9.symm), s1]
      have x4 : (np_exchange S1 (S1.2 q1) q2).1 q2 = q1 := by rw [np_exchange_1, if_pos rfl, c4]
      have hnr : ¬ rch c (np_exchange S1 (S1.2 q1) q2) (S1.2 q1) q2 := by
        intro h
        have h2 := rch_sy hv2 c2 h
        have := h2 (fun k => k = p1 ∨ k = p2 ∨ k = q1 ∨ k = q2) (Or.inr (Or.inr (Or.inr rfl))) (fun j _ hj => by
          rcases hj with rfl | rfl | rfl | rfl
          · exact Or.inr (Or.inl x1)
          · exact Or.inl x2
          · exact Or.inr (Or.inr (Or.inr x3))
          · exact Or.inr (Or.inr (Or.inl x4))) (fun j _ hj => by
          rcases hj with rfl | rfl | rfl | rfl
          · exact Or.inr (Or.inr m21.1)
          · exact Or.inr (Or.inr m21.2.1)
          · rcases m21.2.2.1 with h9 | h9
            · exact Or.inl h9
            · exact Or.inr (Or.inl h9)
          · rcases m21.2.2.2 with h9 | h9
            · exact Or.inl h9
            · exact Or.inr (Or.inl h9))
        rcases this with h9 | h9 | h9 | h9
        · exact hne2 h9
        · exact hne3 h9
        · exact hne1 h9
        · exact e h9
      refine ⟨np_exchange S1 (S1.2 q1) q2, hv2, pn_exch hv1 hb hp1 c2 l4 e (Or.inr (Or.inl (ex_bridge hv1 hb hp1 c2 l4 hnr).1)), fun v hvl g1 g2 => ?_⟩
      rw [np_exchange_1, if_neg g2]
      by_cases h9 : S1.1 v = q1
      · have : v = S1.2 q1 := by rw [← h9, (hv1 v hvl).2.2.1]
        rw [if_pos this, if_pos h9]
      · rw [if_neg (fun h8 => h9 (by rw [h8, c4])), if_neg h9]
  obtain ⟨S2, hv2, hp2, t1⟩ := second
  refine ⟨S2, hv2, hp2, fun v hvl g1 g2 g3 g4 => ?_⟩
  have P0 : ∀ {R : Nat → Prop}, (∀ d, (d = p1 ∨ d = p2 ∨ d = q1 ∨ d = q2) → R d → R (S.1 d)) → ∀ u, u < 2 * c → u ≠ p1 → u ≠ p2 → R (S.1 u) → R (S1.1 u) := fun {R} rd u hu h1 h2 hr => by
    rw [r3 u hu h1 h2]
    by_cases e : S.1 u = p1
    · rw [if_pos e]
      rw [e] at hr
      have k1 := rd p1 (Or.inl rfl) hr
      rw [hpq] at k1
      exact rd p2 (Or.inr (Or.inl rfl)) k1
    · rw [if_neg e]
      exact hr
  have hS1p1 : S1.1 v ≠ p1 := fun e => g2 (vn_inj hv1 hvl l2 (e.trans r1.symm))
  have hS1p2 : S1.1 v ≠ p2 := fun e => g1 (vn_inj hv1 hvl l1 (e.trans r2.symm))
  have hS1q2 : S1.1 v ≠ q2 := fun e => g3 (vn_inj hv1 hvl l3 (e.trans s1.symm))
  have h42 : S1.1 q2 ≠ p1 := fun e => d4 (vn_inj hv1 l4 l2 (e.trans r1.symm)).symm
  have h41 : S1.1 q2 ≠ p2 := fun e => d2 (vn_inj hv1 l4 l1 (e.trans r2.symm)).symm
  have h43 : S1.1 q2 ≠ q2 := fun e => d5 (vn_inj hv1 l4 l3 (e.trans s1.symm)).symm
  rw [t1 v hvl g3 g4]
  by_cases e : S1.1 v = q1
  · rw [if_pos e]
    refine ⟨h42, h41, fun e9 => g4 (vn_inj hv1 hvl l4 (e.trans e9.symm)), h43, fun R ra rd => ?_⟩
    have k1 := P0 rd v hvl g1 g2 ra
    rw [e] at k1
    have k2 := rd q1 (Or.inr (Or.inr (Or.inl rfl))) k1
    rw [hqq] at k2
    exact P0 rd q2 l4 (fun h9 => d2 h9.symm) (fun h9 => d4 h9.symm) (rd q2 (Or.inr (Or.inr (Or.inr rfl))) k2)
  · rw [if_neg e]
    exact ⟨hS1p1, hS1p2, e, hS1q2, fun R ra rd => P0 rd v hvl g1 g2 ra⟩
/-- two crossings of unlike signs go -/
theorem pl_pair (hv : vn T.1 T.2.2.1) (hc : T.1 ≤ 12) (hT : pm1 T) (hx : x < T.1) (hy : y < x) (hs : T.2.2.2 x ≠ T.2.2.2 y) (ho : T.2.2.1.1 (2 * x) = 2 * y ∨ T.2.2.1.1 (2 * y) = 2 * x) (hu : T.2.2.1.1 (2 * x + 1) = 2 * y + 1 ∨ T.2.2.1.1 (2 * y + 1) = 2 * x + 1) (hp : nt_plane T = true) : nt_plane (nt_rm (nt_rm T x) y) = true := by
  have hpl := (plane_iff hv hc).mp hp
  have hst : stG T.2.2.2 (2 * y) = !stG T.2.2.2 (2 * x) := by
    unfold stG
    rw [show 2 * y / 2 = y by omega, show 2 * x / 2 = x by omega, show 2 * y % 2 = 0 by omega, show 2 * x % 2 = 0 by omega]
    rcases hT x hx with h1 | h1 <;> rcases hT y (by omega) with h2 | h2 <;> rw [h1, h2] <;> first | rfl | exact absurd (h1.trans h2.symm) hs
  have fin : ∀ {S2 : ow_NP} {p1 p2 q1 q2 : Nat}, (p1 = 2 * x ∧ p2 = 2 * y ∨ p1 = 2 * y ∧ p2 = 2 * x) → (q1 = 2 * x + 1 ∧ q2 = 2 * y + 1 ∨ q1 = 2 * y + 1 ∧ q2 = 2 * x + 1) → vn T.1 S2 → pn_pl T.1 S2 (stG T.2.2.2) → (∀ v, v < 2 * T.1 → v ≠ p1 → v ≠ p2 → v ≠ q1 → v ≠ q2 → S2.1 v ≠ p1 ∧ S2.1 v ≠ p2 ∧ S2.1 v ≠ q1 ∧ S2.1 v ≠ q2 ∧ pthD T.2.2.1.1 (fun d => d = p1 ∨ d = p2 ∨ d = q1 ∨ d = q2) (T.2.2.1.1 v) (S2.1 v)) → nt_plane (nt_rm (nt_rm T x) y) = true := by
    intro S2 p1 p2 q1 q2 e1 e2 h1 h2 h3
    refine pl_rm2 hv hc hx hy h1 (fun v hvl g1 g2 => ?_) h2
    obtain ⟨k1, k2, k3, k4, k5⟩ := h3 v hvl (by omega) (by omega) (by omega) (by omega)
    refine ⟨by omega, by omega, fun R ra rd => k5 R ra (fun d hd => rd d ?_)⟩
    show d / 2 = x ∨ d / 2 = y
    omega
  have mx := mt_ev x
  have my := mt_ev y
  rcases ho with ho | ho
  · rcases hu with hu | hu
    · obtain ⟨S2, h1, h2, h3⟩ := pl_pair0 hv stG_fl hpl (show 2 * x < 2 * T.1 by omega) (show 2 * y < 2 * T.1 by omega) (show 2 * x + 1 < 2 * T.1 by omega) (show 2 * y + 1 < 2 * T.1 by omega) ho hu (by omega) hst (Or.inl ⟨mx, my⟩) (by omega)
      exact fin (Or.inl ⟨rfl, rfl⟩) (Or.inl ⟨rfl, rfl⟩) h1 h2 h3
    · obtain ⟨S2, h1, h2, h3⟩ := pl_pair0 hv stG_fl hpl (show 2 * x < 2 * T.1 by omega) (show 2 * y < 2 * T.1 by omega) (show 2 * y + 1 < 2 * T.1 by omega) (show 2 * x + 1 < 2 * T.1 by omega) ho hu (by omega) hst (Or.inr ⟨mx, my⟩) (by omega)
      exact fin (Or.inl ⟨rfl, rfl⟩) (Or.inr ⟨rfl, rfl⟩) h1 h2 h3
  · have hst2 : stG T.2.2.2 (2 * x) = !stG T.2.2.2 (2 * y) := by rw [hst, Bool.not_not]
    rcases hu with hu | hu
    · obtain ⟨S2, h1, h2, h3⟩ := pl_pair0 hv stG_fl hpl (show 2 * y < 2 * T.1 by omega) (show 2 * x < 2 * T.1 by omega) (show 2 * x + 1 < 2 * T.1 by omega) (show 2 * y + 1 < 2 * T.1 by omega) ho hu (by omega) hst2 (Or.inr ⟨my, mx⟩) (by omega)
      exact fin (Or.inr ⟨rfl, rfl⟩) (Or.inl ⟨rfl, rfl⟩) h1 h2 h3
    · obtain ⟨S2, h1, h2, h3⟩ := pl_pair0 hv stG_fl hpl (show 2 * y < 2 * T.1 by omega) (show 2 * x < 2 * T.1 by omega) (show 2 * y + 1 < 2 * T.1 by omega) (show 2 * x + 1 < 2 * T.1 by omega) ho hu (by omega) hst2 (Or.inl ⟨my, mx⟩) (by omega)
      exact fin (Or.inr ⟨rfl, rfl⟩) (Or.inr ⟨rfl, rfl⟩) h1 h2 h3
end PTW
end
section
/-! 99zzzzzzzzu.pr3 -/
/-! three sides passed: plane nets stay plane -/
theorem mtd (d : Nat) : mt d / 2 = d / 2 ∧ mt d % 2 = 1 - d % 2 := by
  unfold mt
  split <;> omega
section R3
variable {c : Nat} {S S' : ow_NP} {b : Nat → Bool} {τ : Nat → Nat} {g h : Nat → Nat}
theorem rt_sq (hb : pn_fl b) (d : Nat) : pn_rt b (pn_rt b d) = mt d := by
  have := mtd d
  rcases (show d = 2 * (d / 2) ∨ d = 2 * (d / 2) + 1 by omega) with e | e
  · have h := (pn_sq hb (d / 2)).1
    rw [← e] at h
    rw [h]
    omega
  · have h := (pn_sq hb (d / 2)).2
    rw [← e] at h
    rw [h]
    omega
/-- three gaps around a face with three sides, in a net and in the net with the visits at their ends changed; indices by 3 -/
theorem pl_three (hv : vn c S) (hv' : vn c S') (hb : pn_fl b) (hp : pn_pl c S b)
  (g4 : ∀ i, i < 3 → g i < 4 * c) (hh : ∀ i, i < 3 → h i = pn_al S (g i)) (hg : ∀ i, i < 3 → pn_rt b (h i) = g ((i + 1) % 3))
  (dis : ∀ i j, i < 3 → j < 3 → i ≠ j → h i / 4 ≠ h j / 4)
  (τi : ∀ d, τ (τ d) = d) (τg : ∀ i, i < 3 → τ (g i) = mt (h i)) (τh : ∀ i, i < 3 → τ (h i) = mt (g i)) (τo : ∀ d, (∀ i, i < 3 → d / 2 ≠ g i / 2 ∧ d / 2 ≠ h i / 2) → τ d = d) (τl : ∀ d, d < 4 * c → τ d < 4 * c)
  (hal : ∀ d, d < 4 * c → pn_al S' d = τ (pn_al S (τ d))) : pn_pl c S' b := by
  obtain ⟨R, hR, f, X, f1, f2, f3, f4⟩ := hp
  have h4 : ∀ i, i < 3 → h i < 4 * c := fun i hi => by rw [hh i hi]; exact pn_al_lt hv (g4 i hi)
  have alh : ∀ i, i < 3 → pn_al S (h i) = g i := fun i hi => by rw [hh i hi, pn_al_inv hv (g4 i hi)]
  have sq := rt_sq hb
  have rtl : ∀ d, d < 4 * c → pn_rt b d < 4 * c := fun d hd => pn_rt_lt hd
  -- around the crossings: h i, g (i + 1), mt (h i), mt (g (i + 1))
  have c1 : ∀ i, i < 3 → pn_rt b (g ((i + 1) % 3)) = mt (h i) := fun i hi => by rw [← hg i hi, sq]
  have c2 : ∀ i, i < 3 → pn_rt b (mt (h i)) = mt (g ((i + 1) % 3)) := fun i hi => by rw [← c1 i hi, sq]
  have c3 : ∀ i, i < 3 → pn_rt b (mt (g ((i + 1) % 3))) = h i := fun i hi => by rw [← c2 i hi, sq, mt_mt]
  have gq : ∀ i, i < 3 → g ((i + 1) % 3) / 4 = h i / 4 := fun i hi => by
    have := pn_rt_h (b := b) (h i)
    rw [hg i hi] at this
    have h2 := mt_h2 (h i / 2)
    omega
  have gv : ∀ i, i < 3 → g ((i + 1) % 3) / 2 = mt (h i / 2) := fun i hi => by
    have := pn_rt_h (b := b) (h i)
    rw [hg i hi] at this
    exact this
  have up : ∀ i, i < 3 → ((i + 2) % 3 + 1) % 3 = i := fun i hi => by omega
  -- distinct darts, by visits
  have gh : ∀ i j, i < 3 → j < 3 → g i / 2 ≠ h j / 2 := fun i j hi hj e => by
    have e1 := gv ((i + 2) % 3) (by omega)
    rw [up i hi] at e1
    have e2 := gq ((i + 2) % 3) (by omega)
    rw [up i hi] at e2
    by_cases ej : (i + 2) % 3 = j
    · rw [ej] at e1
      rw [e1] at e
      unfold mt at e
      split at e <;> omega
    · exact dis _ j (by omega) hj ej (by omega)
  have hhd : ∀ i j, i < 3 → j < 3 → i ≠ j → h i / 2 ≠ h j / 2 := fun i j hi hj hne e => dis i j hi hj hne (by omega)
  have ggd : ∀ i j, i < 3 → j < 3 → i ≠ j → g i / 2 ≠ g j / 2 := fun i j hi hj hne e => by
    have e1 := gq ((i + 2) % 3) (by omega)
    rw [up i hi] at e1
    have e2 := gq ((j + 2) % 3) (by omega)
    rw [up j hj] at e2
    exact dis ((i + 2) % 3) ((j + 2) % 3) (by omega) (by omega) (by omega) (by omega)
  have τmg : ∀ i, i < 3 → τ (mt (g i)) = h i := fun i hi => by rw [← τh i hi, τi]
  have τmh : ∀ i, i < 3 → τ (mt (h i)) = g i := fun i hi => by rw [← τg i hi, τi]
  have mg2 : ∀ i, mt (g i) / 2 = g i / 2 := fun i => (mtd _).1
  have mh2 : ∀ i, mt (h i) / 2 = h i / 2 := fun i => (mtd _).1
  have fgt : ∀ i, i < 3 → f (g i) = f (g 0) := by
    have st : ∀ i, i < 3 → f (g ((i + 1) % 3)) = f (g i) := fun i hi => by
      have := f1 (g i) (g4 i hi)
      unfold pn_ph at this
      rw [← hh i hi, hg i hi] at this
      exact this
    intro i hi
    have s0 := st 0 (by omega)
    have s1 := st 1 (by omega)
    rcases (show i = 0 ∨ i = 1 ∨ i = 2 by omega) with e | e | e <;> rw [e]
    · exact s0
    · exact s1.trans s0
  have fh : ∀ i, i < 3 → f (h i) = f (mt (h ((i + 2) % 3))) := fun i hi => by
    have := f1 (h i) (h4 i hi)
    unfold pn_ph at this
    rw [alh i hi] at this
    have e1 := c1 ((i + 2) % 3) (by omega)
    rw [up i hi] at e1
    rw [e1] at this
    exact this.symm
  -- the new label
  have lab : ∀ d, ∃ y, (∀ i, i < 3 → d = mt (h i) → y = f (mt (g ((i + 2) % 3)))) ∧ (∀ i, i < 3 → d = mt (g i) → y = f (g 0)) ∧ ((∀ i, i < 3 → d ≠ mt (h i) ∧ d ≠ mt (g i)) → y = f (τ d)) := fun d => by
    by_cases e1 : ∃ i, i < 3 ∧ d = mt (h i)
    · obtain ⟨i, i1, i2⟩ := e1
      refine ⟨f (mt (g ((i + 2) % 3))), fun j hj ej => ?_, fun j hj ej => ?_, fun h9 => absurd i2 (h9 i i1).1⟩
      · by_cases hij : i = j
        · rw [hij]
        · exact absurd (by rw [← mh2 i, ← mh2 j, ← i2, ← ej]) (hhd i j i1 hj hij)
      · exact absurd (by rw [← mg2 j, ← mh2 i, ← i2, ← ej]) (gh j i hj i1)
    · by_cases e2 : ∃ i, i < 3 ∧ d = mt (g i)
      · obtain ⟨i, i1, i2⟩ := e2
        exact ⟨f (g 0), fun j hj ej => absurd ⟨j, hj, ej⟩ e1, fun _ _ _ => rfl, fun h9 => absurd i2 (h9 i i1).2⟩
      · exact ⟨f (τ d), fun j hj ej => absurd ⟨j, hj, ej⟩ e1, fun j hj ej => absurd ⟨j, hj, ej⟩ e2, fun _ => rfl⟩
  obtain ⟨f', hf'⟩ := Classical.skolem.mp lab
  have Lh : ∀ i, i < 3 → f' (mt (h i)) = f (mt (g ((i + 2) % 3))) := fun i hi => (hf' _).1 i hi rfl
  have Lg : ∀ i, i < 3 → f' (mt (g i)) = f (g 0) := fun i hi => (hf' _).2.1 i hi rfl
  have Lo : ∀ d, (∀ i, i < 3 → d ≠ mt (h i) ∧ d ≠ mt (g i)) → f' d = f (τ d) := fun d => (hf' d).2.2
  have nmh : ∀ i j, i < 3 → j < 3 → g i ≠ mt (h j) ∧ g i ≠ mt (g j) := fun i j hi hj => by
    refine ⟨fun e => gh i j hi hj (by rw [e, mh2]), fun e => ?_⟩
    by_cases hij : i = j
    · rw [hij] at e
      unfold mt at e
      split at e <;> omega
    · exact ggd i j hi hj hij (by rw [e, mg2])
  have nmg : ∀ i j, i < 3 → j < 3 → h i ≠ mt (h j) ∧ h i ≠ mt (g j) := fun i j hi hj => by
    refine ⟨fun e => ?_, fun e => gh j i hj hi (by rw [e, mg2])⟩
    by_cases hij : i = j
    · rw [hij] at e
      unfold mt at e
      split at e <;> omega
    · exact hhd i j hi hj hij (by rw [e, mh2])
  have Fg : ∀ i, i < 3 → f' (g i) = f (mt (h i)) := fun i hi => by rw [Lo _ (fun j hj => nmh i j hi hj), τg i hi]
  have Fh : ∀ i, i < 3 → f' (h i) = f (mt (g i)) := fun i hi => by rw [Lo _ (fun j hj => nmg i j hi hj), τh i hi]
  have down2 : ∀ i, i < 3 → ((i + 2) % 3 + 2) % 3 = (i + 1) % 3 := fun i hi => by omega
  have inv : ∀ d, d < 4 * c → f' (pn_ph S' b d) = f' d := by
    intro d hd
    unfold pn_ph
    rw [hal d hd]
    by_cases e1 : ∃ i, i < 3 ∧ d = mt (h i)
    · obtain ⟨i, i1, i2⟩ := e1
      have r3 := c3 ((i + 2) % 3) (by omega)
      rw [up i i1] at r3
      rw [i2, τmh i i1, ← hh i i1, τh i i1, r3, Fh _ (by omega), Lh i i1]
    · by_cases e2 : ∃ i, i < 3 ∧ d = mt (g i)
      · obtain ⟨i, i1, i2⟩ := e2
        rw [i2, τmg i i1, alh i i1, τg i i1, c2 i i1, Lg _ (by omega), Lg i i1]
      · have nd : ∀ i, i < 3 → d ≠ mt (h i) ∧ d ≠ mt (g i) := fun i hi => ⟨fun e => e1 ⟨i, hi, e⟩, fun e => e2 ⟨i, hi, e⟩⟩
        rw [Lo d nd]
        have hτd := τl d hd
        have fe := f1 (τ d) hτd
        unfold pn_ph at fe
        rw [← fe]
        have ae := pn_al_inv hv hτd
        generalize he : pn_al S (τ d) = e at *
        have ng : ∀ i, i < 3 → e ≠ g i ∧ e ≠ h i := fun i hi => by
          refine ⟨fun e9 => ?_, fun e9 => ?_⟩
          · rw [e9, ← hh i hi] at ae
            have := congrArg τ ae
            rw [τi, τh i hi] at this
            exact (nd i hi).2 this.symm
          · rw [e9, alh i hi] at ae
            have := congrArg τ ae
            rw [τi, τg i hi] at this
            exact (nd i hi).1 this.symm
        by_cases k1 : ∃ i, i < 3 ∧ e = mt (h i)
        · obtain ⟨i, i1, i2⟩ := k1
          have r1 := c1 ((i + 2) % 3) (by omega)
          rw [up i i1] at r1
          rw [i2, τmh i i1, r1, Lh _ (by omega), c2 i i1, down2 i i1]
        · by_cases k2 : ∃ i, i < 3 ∧ e = mt (g i)
          · obtain ⟨i, i1, i2⟩ := k2
            have r3 := c3 ((i + 2) % 3) (by omega)
            rw [up i i1] at r3
            rw [i2, τmg i i1, hg i i1, Fg _ (by omega), r3, fh _ (by omega), down2 i i1]
          · have far : ∀ i, i < 3 → e / 2 ≠ g i / 2 ∧ e / 2 ≠ h i / 2 := fun i hi => by
              have m1 := mtd (g i)
              have m2 := mtd (h i)
              refine ⟨fun e9 => ?_, fun e9 => ?_⟩
              · rcases (show e = g i ∨ e = mt (g i) by omega) with h9 | h9
                · exact (ng i hi).1 h9
                · exact k2 ⟨i, hi, h9⟩
              · rcases (show e = h i ∨ e = mt (h i) by omega) with h9 | h9
                · exact (ng i hi).2 h9
                · exact k1 ⟨i, hi, h9⟩
            have hr := pn_rt_h (b := b) e
            have far2 : ∀ i, i < 3 → pn_rt b e / 2 ≠ g i / 2 ∧ pn_rt b e / 2 ≠ h i / 2 := fun i hi => by
              rw [hr]
              refine ⟨fun e9 => ?_, fun e9 => ?_⟩
              · have e8 := gv ((i + 2) % 3) (by omega)
                rw [up i hi] at e8
                rw [e8] at e9
                have := congrArg mt e9
                rw [mt_mt, mt_mt] at this
                exact (far ((i + 2) % 3) (by omega)).2 this
              · have e8 := gv i hi
                rw [← e9, mt_mt] at e8
                exact (far ((i + 1) % 3) (by omega)).1 e8.symm
            have far3 : ∀ i, i < 3 → pn_rt b e ≠ mt (h i) ∧ pn_rt b e ≠ mt (g i) := fun i hi => ⟨fun e9 => (far2 i hi).2 (by rw [e9, mh2]), fun e9 => (far2 i hi).1 (by rw [e9, mg2])⟩
            rw [τo e far, Lo _ far3, τo _ far2]
  -- every value is taken again
  have ch : ∀ x, ∃ d, x < 4 * c → d < 4 * c ∧ f' d = f x := fun x => by
    by_cases hx : x < 4 * c
    · by_cases k1 : ∃ i, i < 3 ∧ x = mt (h i)
      · obtain ⟨i, i1, i2⟩ := k1
        exact ⟨g i, fun _ => ⟨g4 i i1, by rw [Fg i i1, i2]⟩⟩
      · by_cases k2 : ∃ i, i < 3 ∧ x = mt (g i)
        · obtain ⟨i, i1, i2⟩ := k2
          exact ⟨h i, fun _ => ⟨h4 i i1, by rw [Fh i i1, i2]⟩⟩
        · by_cases k3 : ∃ i, i < 3 ∧ x = h i
          · obtain ⟨i, i1, i2⟩ := k3
            exact ⟨g ((i + 2) % 3), fun _ => ⟨g4 _ (by omega), by rw [Fg _ (by omega), i2, fh i i1]⟩⟩
          · by_cases k4 : ∃ i, i < 3 ∧ x = g i
            · obtain ⟨i, i1, i2⟩ := k4
              have hm := (mtd (g 0)).1
              exact ⟨mt (g 0), fun _ => ⟨by have := g4 0 (by omega); omega, by rw [Lg 0 (by omega), i2, fgt i i1]⟩⟩
            · have far : ∀ i, i < 3 → x / 2 ≠ g i / 2 ∧ x / 2 ≠ h i / 2 := fun i hi => by
                have m1 := mtd (g i)
                have m2 := mtd (h i)
                refine ⟨fun e9 => ?_, fun e9 => ?_⟩
                · rcases (show x = g i ∨ x = mt (g i) by omega) with h9 | h9
                  · exact k4 ⟨i, hi, h9⟩
                  · exact k2 ⟨i, hi, h9⟩
                · rcases (show x = h i ∨ x = mt (h i) by omega) with h9 | h9
                  · exact k3 ⟨i, hi, h9⟩
                  · exact k1 ⟨i, hi, h9⟩
              exact ⟨x, fun _ => ⟨hx, by rw [Lo x (fun i hi => ⟨fun e => k1 ⟨i, hi, e⟩, fun e => k2 ⟨i, hi, e⟩⟩), τo x far]⟩⟩
    · exact ⟨0, fun h9 => absurd h9 hx⟩
  obtain ⟨χ, hχ⟩ := Classical.skolem.mp ch
  -- parts
  have tv : ∀ v e, v < 2 * c → e < 2 → τ (2 * v + e) / 2 = τ (2 * v) / 2 := by
    intro v e hvl he
    rcases (show e = 0 ∨ e = 1 by omega) with rfl | rfl
    · rfl
    · by_cases k : ∃ i, i < 3 ∧ (v = g i / 2 ∨ v = h i / 2)
      · obtain ⟨i, i1, i2⟩ := k
        have m1 := mtd (g i)
        have m2 := mtd (h i)
        have q1 := τg i i1
        have q2 := τmg i i1
        have q3 := τh i i1
        have q4 := τmh i i1
        rcases i2 with i2 | i2
        · rcases (show g i = 2 * v ∧ mt (g i) = 2 * v + 1 ∨ g i = 2 * v + 1 ∧ mt (g i) = 2 * v by omega) with ⟨e1, e2⟩ | ⟨e1, e2⟩
          · rw [e1] at q1
            rw [e2] at q2
            rw [q1, q2, m2.1]
          · rw [e1] at q1
            rw [e2] at q2
            rw [q1, q2, m2.1]
        · rcases (show h i = 2 * v ∧ mt (h i) = 2 * v + 1 ∨ h i = 2 * v + 1 ∧ mt (h i) = 2 * v by omega) with ⟨e1, e2⟩ | ⟨e1, e2⟩
          · rw [e1] at q3
            rw [e2] at q4
            rw [q3, q4, m1.1]
          · rw [e1] at q3
            rw [e2] at q4
            rw [q3, q4, m1.1]
      · have far : ∀ e, e < 2 → ∀ i, i < 3 → (2 * v + e) / 2 ≠ g i / 2 ∧ (2 * v + e) / 2 ≠ h i / 2 := fun e he i hi => by
          rw [show (2 * v + e) / 2 = v by omega]
          exact ⟨fun e9 => k ⟨i, hi, Or.inl e9⟩, fun e9 => k ⟨i, hi, Or.inr e9⟩⟩
        rw [τo (2 * v + 1) (far 1 (by omega)), τo (2 * v) (far 0 (by omega))]
        omega
  -- a dart and the one across are in one part
  have nb : ∀ d, d < 4 * c → rch c S' (d / 2) (pn_al S' d / 2) := fun d hd => by
    unfold pn_al
    by_cases e : d % 2 = 0
    · rw [if_pos e, show (2 * S'.1 (d / 2) + 1) / 2 = S'.1 (d / 2) by omega]
      exact rch_n (rch_rf _ _ _) (by omega)
    · rw [if_neg e, show 2 * S'.2 (d / 2) / 2 = S'.2 (d / 2) by omega]
      obtain ⟨q1, q2, q3, q4⟩ := hv' (d / 2) (by omega)
      have := rch_n (rch_rf c S' (S'.2 (d / 2))) q2
      rw [q4] at this
      exact rch_sy hv' q2 this
  have in1 : ∀ i, i < 3 → rch c S' (h i / 2) (g i / 2) := fun i hi => by
    have hl : mt (h i) < 4 * c := by have := h4 i hi; have := (mtd (h i)).1; omega
    have := nb (mt (h i)) hl
    rw [hal _ hl, τmh i hi, ← hh i hi, τh i hi, mh2, mg2] at this
    exact this
  have same : ∀ v, v < 2 * c → rch c S' v (τ (2 * v) / 2) := by
    intro v hvl
    by_cases k : ∃ i, i < 3 ∧ (v = g i / 2 ∨ v = h i / 2)
    · obtain ⟨i, i1, i2⟩ := k
      have m1 := mtd (g i)
      have m2 := mtd (h i)
      have hgl := g4 i i1
      have hhl := h4 i i1
      have back := rch_sy hv' (show h i / 2 < 2 * c by omega) (in1 i i1)
      rcases i2 with i2 | i2
      · have e9 : τ (2 * v) / 2 = h i / 2 := by
          rcases (show g i = 2 * v ∨ mt (g i) = 2 * v by omega) with e1 | e1
          · rw [← e1, τg i i1, m2.1]
          · rw [← e1, τmg i i1]
        rw [e9, i2]
        exact back
      · have e9 : τ (2 * v) / 2 = g i / 2 := by
          rcases (show h i = 2 * v ∨ mt (h i) = 2 * v by omega) with e1 | e1
          · rw [← e1, τh i i1, m1.1]
          · rw [← e1, τmh i i1]
        rw [e9, i2]
        exact in1 i i1
    · have : τ (2 * v) = 2 * v := τo _ (fun i hi => by
        rw [show 2 * v / 2 = v by omega]
        exact ⟨fun e9 => k ⟨i, hi, Or.inl e9⟩, fun e9 => k ⟨i, hi, Or.inr e9⟩⟩)
      rw [this, show 2 * v / 2 = v by omega]
      exact rch_rf _ _ _
  have keep : ∀ r v, rch c S r v → rch c S' r v := fun r v hr => hr (fun v => rch c S' r v) (rch_rf _ _ _) (fun j hj hp => by
    obtain ⟨q1, q2, q3, q4⟩ := hv j hj
    have t1 := τl (2 * j) (by omega)
    have k1 := nb (τ (2 * j)) t1
    rw [hal _ t1, τi, pn_al0, tv _ 1 q1 (by omega)] at k1
    exact rch_tr hp (rch_tr (same j hj) (rch_tr k1 (rch_sy hv' q1 (same _ q1))))) (fun j hj hp => rch_m hp hj)
  refine ⟨R, fun v hvl => ?_, f', X.map χ, inv, fun x hx => ?_, ?_, by rw [List.length_map]; exact f4⟩
  · obtain ⟨r, r1, r2, r3⟩ := hR v hvl
    exact ⟨r, r1, r2, keep r v r3⟩
  · obtain ⟨q, q1, q2⟩ := List.mem_map.mp hx
    rw [← q2]
    exact (hχ q (f2 q q1)).1
  · unfold pm_dv
    rw [List.map_map]
    have : X.map (f' ∘ χ) = X.map f := List.map_congr_left (fun q hq => (hχ q (f2 q hq)).2)
    rw [this]
    exact f3
end R3
end
section
/-! 99zzzzzzzzv.pmv -/
/-! every move of a plane net makes plane nets -/
theorem pl_cg {T T' : ow_NT} (e1 : T'.1 = T.1) (hN : ∀ k, k < 2 * T.1 → T'.2.2.1.1 k = T.2.2.1.1 k) (hG : ∀ x, x < T.1 → T'.2.2.2 x = T.2.2.2 x) (hv : vn T.1 T.2.2.1) (hv' : vn T'.1 T'.2.2.1) (hc : T.1 ≤ 12) : nt_plane T' = true ↔ nt_plane T = true := by
  rw [plane_iff hv hc, plane_iff hv' (by omega)]
  rw [e1] at hv' ⊢
  exact pl_hm (ψA := fun v => v) hv' hv (fun v hvl => ⟨hvl, hN v hvl, rfl, by
    show stG T'.2.2.2 v = stG T.2.2.2 v
    unfold stG
    rw [hG _ (by omega)]⟩) (fun u v _ _ e => e)
section PMV
variable {R Q : ow_NT}
theorem cpyN {k : Nat} (hk : k < 2 * R.1) : (nt_copy Q R).2.2.1.1 k = R.2.2.1.1 k ∧ (nt_copy Q R).2.2.1.2 k = R.2.2.1.2 k := by
  have key : ∀ (f g : Nat → Nat), va_cpy f g 0 0 (2 * R.1) k = f k := fun f g => by
    rw [pk_cpy_in (Nat.zero_le k) (by omega), Nat.zero_add, Nat.sub_zero]
  exact ⟨key _ _, key _ _⟩
theorem cpyG {x : Nat} (hx : x < R.1) : (nt_copy Q R).2.2.2 x = R.2.2.2 x := by
  show va_cpy R.2.2.2 Q.2.2.2 0 0 R.1 x = _
  rw [pk_cpy_in (Nat.zero_le x) (by omega), Nat.zero_add, Nat.sub_zero]
theorem pl_copy (hv : vn R.1 R.2.2.1) (hc : R.1 ≤ 12) : nt_plane (nt_copy Q R) = true ↔ nt_plane R = true := pl_cg rfl (fun k hk => (cpyN hk).1) (fun x hx => cpyG hx) hv (vn_copy hv) hc
theorem pm1_copy (h : pm1 R) : pm1 (nt_copy Q R) := fun x hx => by
  have hx : x < R.1 := hx
  rw [cpyG hx]
  exact h x hx
/-- a kink alone -/
theorem fig8 {b : Nat → Bool} (hb : pn_fl b) : vn 1 (fun v => 1 - v, fun v => 1 - v) ∧ pn_pl 1 (fun v => 1 - v, fun v => 1 - v) b := by
  have hv : vn 1 (fun v => 1 - v, fun v => 1 - v) := fun k hk => by
    show 1 - k < 2 * 1 ∧ 1 - k < 2 * 1 ∧ 1 - (1 - k) = k ∧ 1 - (1 - k) = k
    omega
  refine ⟨hv, ?_⟩
  have hm0 := hb 0
  have hm1 : mt 0 = 1 := rfl
  rw [hm1] at hm0
  refine ⟨[0], fun v hvl => ⟨0, List.mem_singleton.mpr rfl, by omega, ?_⟩, ?_⟩
  · rcases (show v = 0 ∨ v = 1 by omega) with rfl | rfl
    · exact rch_rf _ _ _
    · exact rch_m (rch_rf _ _ _) (by omega)
  · have key : ∀ d, d < 4 → pn_ph (fun v => 1 - v, fun v => 1 - v) b d = if d = 0 then pn_rt b 3 else if d = 1 then pn_rt b 2 else if d = 2 then pn_rt b 1 else pn_rt b 0 := by
      intro d hd
      rcases (show d = 0 ∨ d = 1 ∨ d = 2 ∨ d = 3 by omega) with rfl | rfl | rfl | rfl <;> rfl
    have r0 := pn_at0 (b := b) 0
    have r1 := pn_at1 (b := b) 0
    have r2 := pn_at0 (b := b) 1
    have r3 := pn_at1 (b := b) 1
    cases e : b 0 with
    | true =>
      rw [e] at hm0 r0 r1
      have hm0 : b 1 = false := hm0
      rw [hm0] at r2 r3
      have q0 : pn_rt b 0 = 3 := r0
      have q1 : pn_rt b 1 = 2 := r1
      have q2 : pn_rt b 2 = 0 := r2
      have q3 : pn_rt b 3 = 1 := r3
      refine ⟨fun d => if d = 1 then 0 else d, [0, 2, 3], fun d hd => ?_, fun x hx => ?_, ?_, Nat.le_refl _⟩
      · rw [key d hd, q0, q1, q2, q3]
        rcases (show d = 0 ∨ d = 1 ∨ d = 2 ∨ d = 3 by omega) with rfl | rfl | rfl | rfl <;> rfl
      · simp at hx
        omega
      · show [0, 2, 3].Nodup
        decide
    | false =>
      rw [e] at hm0 r0 r1
      have hm0 : b 1 = true := hm0
      rw [hm0] at r2 r3
      have q0 : pn_rt b 0 = 2 := r0
      have q1 : pn_rt b 1 = 3 := r1
      have q2 : pn_rt b 2 = 1 := r2
      have q3 : pn_rt b 3 = 0 := r3
      refine ⟨fun d => if d = 3 then 2 else d, [0, 1, 2], fun d hd => ?_, fun x hx => ?_, ?_, Nat.le_refl _⟩
      · rw [key d hd, q0, q1, q2, q3]
        rcases (show d = 0 ∨ d = 1 ∨ d = 2 ∨ d = 3 by omega) with rfl | rfl | rfl | rfl <;> rfl
      · simp at hx
        omega
      · show [0, 1, 2].Nodup
        decide
/-- a net and a kink of two new visits beside it -/
theorem pl_beside {c : Nat} {S S' : ow_NP} {G G' : Nat → Int32} {u o : Nat} (hv : vn c S) (hv' : vn (c + 1) S') (hp : pn_pl c S (stG G)) (hN : ∀ k, k < 2 * c → S'.1 k = S.1 k) (hG : ∀ x, x < c → G' x = G x) (huo : u = 2 * c ∧ o = 2 * c + 1 ∨ u = 2 * c + 1 ∧ o = 2 * c) (h1 : S'.1 u = o) (h2 : S'.1 o = u) : pn_pl (c + 1) S' (stG G') := by
  have hfl : pn_fl (fun v => stG G' (2 * c + v)) := fun v => by
    have : 2 * c + mt v = mt (2 * c + v) := by
      unfold mt
      split <;> split <;> omega
    show stG G' (2 * c + mt v) = !stG G' (2 * c + v)
    rw [this]
    exact stG_fl _
  obtain ⟨f1, f2⟩ := fig8 hfl
  refine un_sup (ψA := fun v => v) (ψB := fun v => 2 * c + v) hv' hv f1 (fun v hvl => ⟨show v < 2 * (c + 1) by omega, hN v hvl, rfl, ?_⟩) (fun v hvl => ⟨show 2 * c + v < 2 * (c + 1) by omega, ?_, ?_, rfl⟩) ⟨rfl, fun a d _ _ e => e, fun a d _ _ e => Nat.add_left_cancel e, fun a d ha hd e => by have e : a = 2 * c + d := e; omega⟩ hp f2
  · show stG G' v = stG G v
    unfold stG
    rw [hG _ (by omega)]
  · show S'.1 (2 * c + v) = 2 * c + (1 - v)
    rcases (show v = 0 ∨ v = 1 by omega) with rfl | rfl
    · rcases huo with ⟨a1, a2⟩ | ⟨a1, a2⟩
      · rw [a1] at h1
        rw [show 2 * c + 0 = 2 * c from rfl, h1, a2]
      · rw [a2] at h2
        rw [show 2 * c + 0 = 2 * c from rfl, h2, a1]
    · rcases huo with ⟨a1, a2⟩ | ⟨a1, a2⟩
      · rw [a2] at h2
        rw [h2, a1]
        rfl
      · rw [a1] at h1
        rw [h1, a2]
        rfl
  · show mt (2 * c + v) = 2 * c + mt v
    unfold mt
    split <;> split <;> omega
/-- a kink comes into a gap or a circle -/
theorem pl_comes {c : Nat} {S : ow_NP} {G G' : Nat → Int32} {u o : Nat} (af : Option Nat) (ha : ∀ a, af = some a → a < 2 * c) (hv : vn c S) (hp : pn_pl c S (stG G)) (hG : ∀ x, x < c → G' x = G x) (huo : u = 2 * c ∧ o = 2 * c + 1 ∨ u = 2 * c + 1 ∧ o = 2 * c) (k : Nat) (hv' : vn (c + 1) (nt_pair (c + 1, k, S, G') af u o).2.2.1) : pn_pl (c + 1) (nt_pair (c + 1, k, S, G') af u o).2.2.1 (stG G') := by
  cases af with
  | none =>
    have hv' : vn (c + 1) (np_putBehind (nl S u u) u o) := hv'
    show pn_pl (c + 1) (np_putBehind (nl S u u) u o) (stG G')
    refine pl_beside hv hv' hp (fun j hj => ?_) hG huo ?_ ?_
    · rw [put_1, if_neg (by omega), if_neg (by omega), nl_1, if_neg (by omega)]
    · rw [put_1, if_neg (by omega), if_pos rfl]
    · rw [put_1, if_pos rfl, nl_1, if_pos rfl]
  | some a =>
    have hal := ha a rfl
    have hv' : vn (c + 1) (np_putBehind (np_putBehind S a u) u o) := hv'
    show pn_pl (c + 1) (np_putBehind (np_putBehind S a u) u o) (stG G')
    have hol : o < 2 * (c + 1) := by omega
    have hal2 : a < 2 * (c + 1) := by omega
    have nx : ∀ j, (np_putBehind (np_putBehind S a u) u o).1 j = if j = o then S.1 a else if j = u then o else if j = a then u else S.1 j := fun j => by
      rw [put_1, put_1, put_1, if_pos rfl]
      by_cases e1 : j = o
      · rw [if_pos e1, if_pos e1]
      · rw [if_neg e1, if_neg e1]
        by_cases e2 : j = u
        · rw [if_pos e2, if_pos e2]
        · rw [if_neg e2, if_neg e2, if_neg e2]
    generalize hS' : np_putBehind (np_putBehind S a u) u o = S' at *
    have hv2 := vn_exchange hv' hal2 hol
    have hSl := (hv a hal).1
    have key : pn_pl (c + 1) (np_exchange S' a o) (stG G') := by
      refine pl_beside hv hv2 hp (fun j hj => ?_) hG huo ?_ ?_
      · rw [np_exchange_1, if_neg (by omega)]
        by_cases e : j = a
        · rw [if_pos e, nx, if_pos rfl, e]
        · rw [if_neg e, nx, if_neg (by omega), if_neg (by omega), if_neg e]
      · rw [np_exchange_1, if_neg (by omega), if_neg (by omega), nx, if_neg (by omega), if_pos rfl]
      · rw [np_exchange_1, if_pos rfl, nx, if_neg (by omega), if_neg (by omega), if_pos rfl]
    rw [← np_exchange_twice hv' hal2 hol]
    refine pn_exch hv2 stG_fl key hal2 hol (by omega) (Or.inl (fun hr => ?_))
    -- the new visits lie apart
    have e1 : (np_exchange S' a o).1 u = o := by rw [np_exchange_1, if_neg (by omega), if_neg (by omega), nx, if_neg (by omega), if_pos rfl]
    have e2 : (np_exchange S' a o).1 o = u := by rw [np_exchange_1, if_pos rfl, nx, if_neg (by omega), if_neg (by omega), if_pos rfl]
    have hr2 := rch_sy hv2 hal2 hr
    have := hr2 (fun j => j = u ∨ j = o) (Or.inr rfl) (fun j _ hj => by
      rcases hj with rfl | rfl
      · exact Or.inr e1
      · exact Or.inl e2) (fun j _ hj => by
      rcases huo with ⟨a1, a2⟩ | ⟨a1, a2⟩
      · rcases hj with rfl | rfl
        · rw [a1, a2]; exact Or.inr (mt_ev c)
        · rw [a1, a2]; exact Or.inl (mt_od c)
      · rcases hj with rfl | rfl
        · rw [a1, a2]; exact Or.inr (mt_od c)
        · rw [a1, a2]; exact Or.inl (mt_ev c))
    omega
/-! three swaps -/
def sw3 (v0 w0 v1 w1 v2 w2 k : Nat) : Nat := np_sw (np_sw (np_sw k v0 w0) v1 w1) v2 w2
theorem sw3_at {v0 w0 v1 w1 v2 w2 : Nat} (hd : v0 ≠ w0 ∧ v0 ≠ v1 ∧ v0 ≠ w1 ∧ v0 ≠ v2 ∧ v0 ≠ w2 ∧ w0 ≠ v1 ∧ w0 ≠ w1 ∧ w0 ≠ v2 ∧ w0 ≠ w2 ∧ v1 ≠ w1 ∧ v1 ≠ v2 ∧ v1 ≠ w2 ∧ w1 ≠ v2 ∧ w1 ≠ w2 ∧ v2 ≠ w2) (k : Nat) : sw3 v0 w0 v1 w1 v2 w2 k = (if k = v0 then w0 else if k = w0 then v0 else if k = v1 then w1 else if k = w1 then v1 else if k = v2 then w2 else if k = w2 then v2 else k) ∧ np_sw (np_sw (np_sw k v2 w2) v1 w1) v0 w0 = (if k = v0 then w0 else if k = w0 then v0 else if k = v1 then w1 else if k = w1 then v1 else if k = v2 then w2 else if k = w2 then v2 else k) := by
  obtain ⟨h1, h2, h3, h4, h5, h6, h7, h8, h9, h10, h11, h12, h13, h14, h15⟩ := hd
  unfold sw3
  by_cases k0 : k = v0
  · subst k0
    rw [if_pos rfl, np_sw_v, np_sw_o h6 h7, np_sw_o h8 h9, np_sw_o h4 h5, np_sw_o h2 h3, np_sw_v]
    exact ⟨rfl, rfl⟩
  · rw [if_neg k0]
    by_cases k1 : k = w0
    · subst k1
      rw [if_pos rfl, np_sw_w, np_sw_o h2 h3, np_sw_o h4 h5, np_sw_o h8 h9, np_sw_o h6 h7, np_sw_w]
      exact ⟨rfl, rfl⟩
    · rw [if_neg k1, np_sw_o k0 k1]
      by_cases k2 : k = v1
      · subst k2
        rw [if_pos rfl, np_sw_v, np_sw_o h13 h14, np_sw_o h11 h12, np_sw_v, np_sw_o (fun e => h3 e.symm) (fun e => h7 e.symm)]
        exact ⟨rfl, rfl⟩
      · rw [if_neg k2]
        by_cases k3 : k = w1
        · subst k3
          rw [if_pos rfl, np_sw_w, np_sw_o h11 h12, np_sw_o h13 h14, np_sw_w, np_sw_o (fun e => h2 e.symm) (fun e => h6 e.symm)]
          exact ⟨rfl, rfl⟩
        · rw [if_neg k3, np_sw_o k2 k3]
          by_cases k4 : k = v2
          · subst k4
            rw [if_pos rfl, np_sw_v, np_sw_o (fun e => h12 e.symm) (fun e => h14 e.symm), np_sw_o (fun e => h5 e.symm) (fun e => h9 e.symm)]
            exact ⟨rfl, rfl⟩
          · rw [if_neg k4]
            by_cases k5 : k = w2
            · subst k5
              rw [if_pos rfl, np_sw_w, np_sw_o (fun e => h11 e.symm) (fun e => h13 e.symm), np_sw_o (fun e => h4 e.symm) (fun e => h8 e.symm)]
              exact ⟨rfl, rfl⟩
            · rw [if_neg k5, np_sw_o k4 k5, np_sw_o k2 k3, np_sw_o k0 k1]
              exact ⟨rfl, rfl⟩
end PMV
end
section
/-! 99zzzzzzzzw.pmv2 -/
/-! every move of a plane net makes plane nets: all kinds -/
theorem mt_self (k : Nat) : mt k ≠ k := by
  unfold mt
  split <;> omega
theorem six_ne {H0 H1 H2 x0 x1 x2 s0 s1 s2 w0 w1 w2 : Nat} (D01 : H0 / 2 ≠ H1 / 2) (D02 : H0 / 2 ≠ H2 / 2) (D12 : H1 / 2 ≠ H2 / 2) (m0 : x0 / 2 = H0 / 2) (m1 : x1 / 2 = H1 / 2) (m2 : x2 / 2 = H2 / 2) (n0 : x0 ≠ H0) (n1 : x1 ≠ H1) (n2 : x2 ≠ H2) (v0 : x2 = s0 ∧ H0 = w0 ∨ x2 = w0 ∧ H0 = s0) (v1 : x0 = s1 ∧ H1 = w1 ∨ x0 = w1 ∧ H1 = s1) (v2 : x1 = s2 ∧ H2 = w2 ∨ x1 = w2 ∧ H2 = s2) : s0 ≠ w0 ∧ s0 ≠ s1 ∧ s0 ≠ w1 ∧ s0 ≠ s2 ∧ s0 ≠ w2 ∧ w0 ≠ s1 ∧ w0 ≠ w1 ∧ w0 ≠ s2 ∧ w0 ≠ w2 ∧ s1 ≠ w1 ∧ s1 ≠ s2 ∧ s1 ≠ w2 ∧ w1 ≠ s2 ∧ w1 ≠ w2 ∧ s2 ≠ w2 := by
  have a1 : H0 ≠ H1 := fun e => D01 (by rw [e])
  have a2 : H0 ≠ H2 := fun e => D02 (by rw [e])
  have a3 : H1 ≠ H2 := fun e => D12 (by rw [e])
  have a4 : x0 ≠ x1 := fun e => D01 (by rw [← m0, ← m1, e])
  have a5 : x0 ≠ x2 := fun e => D02 (by rw [← m0, ← m2, e])
  have a6 : x1 ≠ x2 := fun e => D12 (by rw [← m1, ← m2, e])
  have a7 : H0 ≠ x1 := fun e => D01 (by rw [← m1, e])
  have a8 : H0 ≠ x2 := fun e => D02 (by rw [← m2, e])
  have a9 : H1 ≠ x0 := fun e => D01 (by rw [← m0, e])
  have b1 : H1 ≠ x2 := fun e => D12 (by rw [← m2, e])
  have b2 : H2 ≠ x0 := fun e => D02 (by rw [← m0, e])
  have b3 : H2 ≠ x1 := fun e => D12 (by rw [← m1, e])
  rcases v0 with ⟨rfl, rfl⟩ | ⟨rfl, rfl⟩ <;> rcases v1 with ⟨rfl, rfl⟩ | ⟨rfl, rfl⟩ <;> rcases v2 with ⟨rfl, rfl⟩ | ⟨rfl, rfl⟩ <;> (refine ⟨?_, ?_, ?_, ?_, ?_, ?_, ?_, ?_, ?_, ?_, ?_, ?_, ?_, ?_, ?_⟩ <;> first | assumption | (exact Ne.symm (by assumption)))
section PM2
variable {R : ow_NT}
theorem al_end {s : Nat} (hv : vn R.1 R.2.2.1) (hs : s < 4 * R.1) : pn_al R.2.2.1 (sdD R.2.2.1 s) = if s % 2 = 0 then 2 * fc_end R.2.2.1.1 s + 1 else 2 * fc_end R.2.2.1.1 s := by
  unfold sdD fc_end
  by_cases e : s % 2 = 0
  · rw [if_pos e, if_pos e, if_pos e]
    unfold pn_al
    rw [if_pos e]
  · rw [if_neg e, if_neg e, if_neg e, pn_al1, (hv (s / 2) (by omega)).2.2.1]
/-- the two visits of a side, as darts -/
theorem side_vw {s : Nat} (hv : vn R.1 R.2.2.1) (hs : s < 4 * R.1) : (s % 2 = 0 ∧ sdD R.2.2.1 s = 2 * (s / 2) ∧ pn_al R.2.2.1 (sdD R.2.2.1 s) = 2 * R.2.2.1.1 (s / 2) + 1) ∨ (s % 2 = 1 ∧ sdD R.2.2.1 s = 2 * R.2.2.1.1 (s / 2) + 1 ∧ pn_al R.2.2.1 (sdD R.2.2.1 s) = 2 * (s / 2)) := by
  rw [al_end hv hs]
  unfold sdD fc_end
  by_cases e : s % 2 = 0
  · rw [if_pos e, if_pos e, if_pos e]
    exact Or.inl ⟨e, by omega, rfl⟩
  · rw [if_neg e, if_neg e, if_neg e]
    exact Or.inr ⟨by omega, rfl, rfl⟩
theorem swap_3 {c : Nat} {S : ow_NP} {v0 w0 v1 w1 v2 w2 : Nat} (hv : vn c S) (l : v0 < 2 * c ∧ w0 < 2 * c ∧ v1 < 2 * c ∧ w1 < 2 * c ∧ v2 < 2 * c ∧ w2 < 2 * c) {k : Nat} (hk : k < 2 * c) : (np_swap (np_swap (np_swap S v0 w0) v1 w1) v2 w2).1 k = sw3 v0 w0 v1 w1 v2 w2 (S.1 (np_sw (np_sw (np_sw k v2 w2) v1 w1) v0 w0)) ∧ (np_swap (np_swap (np_swap S v0 w0) v1 w1) v2 w2).2 k = sw3 v0 w0 v1 w1 v2 w2 (S.2 (np_sw (np_sw (np_sw k v2 w2) v1 w1) v0 w0)) := by
  obtain ⟨l1, l2, l3, l4, l5, l6⟩ := l
  have h0 : vD (fun k => k < 2 * c) S := vD_vn.mpr hv
  have h1 := vD_swap h0 l1 l2
  have h2 := vD_swap h1 l3 l4
  have k2 : np_sw k v2 w2 < 2 * c := np_sw_D (D := fun k => k < 2 * c) l5 l6 hk
  have k1 : np_sw (np_sw k v2 w2) v1 w1 < 2 * c := np_sw_D (D := fun k => k < 2 * c) l3 l4 k2
  unfold sw3
  rw [np_swap_1 h2 l5 l6 hk, np_swap_1 h1 l3 l4 k2, np_swap_1 h0 l1 l2 k1, np_swap_2 h2 l5 l6 hk, np_swap_2 h1 l3 l4 k2, np_swap_2 h0 l1 l2 k1]
  exact ⟨rfl, rfl⟩
theorem pl_pass (hv : vn R.1 R.2.2.1) (hc : R.1 ≤ 12) (hp : nt_plane R = true) {s0 s1 s2 : Nat} (l0 : s0 < 4 * R.1) (e1 : fc_on R.2.2.1 R.2.2.2 s0 = s1) (e2 : fc_on R.2.2.1 R.2.2.2 s1 = s2) (e3 : fc_on R.2.2.1 R.2.2.2 s2 = s0) (d1 : fc_end R.2.2.1.1 s0 / 2 ≠ fc_end R.2.2.1.1 s1 / 2) (d2 : fc_end R.2.2.1.1 s1 / 2 ≠ fc_end R.2.2.1.1 s2 / 2) (d3 : fc_end R.2.2.1.1 s0 / 2 ≠ fc_end R.2.2.1.1 s2 / 2) : vn R.1 (np_swap (np_swap (np_swap R.2.2.1 (s0 / 2) (R.2.2.1.1 (s0 / 2))) (s1 / 2) (R.2.2.1.1 (s1 / 2))) (s2 / 2) (R.2.2.1.1 (s2 / 2))) ∧ pn_pl R.1 (np_swap (np_swap (np_swap R.2.2.1 (s0 / 2) (R.2.2.1.1 (s0 / 2))) (s1 / 2) (R.2.2.1.1 (s1 / 2))) (s2 / 2) (R.2.2.1.1 (s2 / 2))) (stG R.2.2.2) := by
  have hpl := (plane_iff hv hc).mp hp
  have l1 : s1 < 4 * R.1 := by rw [← e1]; exact fc_on_vn hv _ l0
  have l2 : s2 < 4 * R.1 := by rw [← e2]; exact fc_on_vn hv _ l1
  have hvl : ∀ s, s < 4 * R.1 → R.2.2.1.1 (s / 2) < 2 * R.1 := fun s hs => (hv _ (by omega)).1
  have a0 := hvl s0 l0
  have a1 := hvl s1 l1
  have a2 := hvl s2 l2
  have hvS : vn R.1 (np_swap (np_swap (np_swap R.2.2.1 (s0 / 2) (R.2.2.1.1 (s0 / 2))) (s1 / 2) (R.2.2.1.1 (s1 / 2))) (s2 / 2) (R.2.2.1.1 (s2 / 2))) := vD_vn.mp (vD_swap (vD_swap (vD_swap (vD_vn.mpr hv) (show s0 / 2 < 2 * R.1 by omega) a0) (show s1 / 2 < 2 * R.1 by omega) a1) (show s2 / 2 < 2 * R.1 by omega) a2)
  refine ⟨hvS, ?_⟩
  -- the darts
  let sd : Nat → Nat := fun i => if i = 0 then s0 else if i = 1 then s1 else s2
  have sdl : ∀ i, sd i < 4 * R.1 := fun i => by
    show (if i = 0 then s0 else if i = 1 then s1 else s2) < 4 * R.1
    split
    · exact l0
    · split
      · exact l1
      · exact l2
  have son : ∀ i, i < 3 → fc_on R.2.2.1 R.2.2.2 (sd i) = sd ((i + 1) % 3) := fun i hi => by
    rcases (show i = 0 ∨ i = 1 ∨ i = 2 by omega) with rfl | rfl | rfl
    · exact e1
    · exact e2
    · exact e3
  have sdis : ∀ i j, i < 3 → j < 3 → i ≠ j → fc_end R.2.2.1.1 (sd i) / 2 ≠ fc_end R.2.2.1.1 (sd j) / 2 := fun i j hi hj hne => by
    rcases (show i = 0 ∨ i = 1 ∨ i = 2 by omega) with rfl | rfl | rfl <;> rcases (show j = 0 ∨ j = 1 ∨ j = 2 by omega) with rfl | rfl | rfl
    · exact absurd rfl hne
    · exact d1
    · exact d3
    · exact fun e => d1 e.symm
    · exact absurd rfl hne
    · exact d2
    · exact fun e => d3 e.symm
    · exact fun e => d2 e.symm
    · exact absurd rfl hne
  let g : Nat → Nat := fun i => sdD R.2.2.1 (sd i)
  let h : Nat → Nat := fun i => pn_al R.2.2.1 (g i)
  have hq : ∀ i, h i / 2 = fc_end R.2.2.1.1 (sd i) := fun i => by
    show pn_al R.2.2.1 (sdD R.2.2.1 (sd i)) / 2 = _
    rw [al_end hv (sdl i)]
    split <;> omega
  have hg : ∀ i, i < 3 → pn_rt (stG R.2.2.2) (h i) = g ((i + 1) % 3) := fun i hi => by
    have := sd_on (G := R.2.2.2) hv (sdl i)
    rw [son i hi] at this
    exact this.symm
  have dis : ∀ i j, i < 3 → j < 3 → i ≠ j → h i / 4 ≠ h j / 4 := fun i j hi hj hne e => sdis i j hi hj hne (by rw [← hq i, ← hq j]; omega)
  have gv : ∀ i, i < 3 → g ((i + 1) % 3) / 2 = mt (h i / 2) := fun i hi => by rw [← hg i hi, pn_rt_h]
  -- the six visits differ
  have V : ∀ i, g i / 2 = sd i / 2 ∧ h i / 2 = R.2.2.1.1 (sd i / 2) ∨ g i / 2 = R.2.2.1.1 (sd i / 2) ∧ h i / 2 = sd i / 2 := fun i => by
    rcases side_vw hv (sdl i) with ⟨-, q1, q2⟩ | ⟨-, q1, q2⟩
    · left
      show sdD R.2.2.1 (sd i) / 2 = _ ∧ pn_al R.2.2.1 (sdD R.2.2.1 (sd i)) / 2 = _
      rw [q2, q1]
      omega
    · right
      show sdD R.2.2.1 (sd i) / 2 = _ ∧ pn_al R.2.2.1 (sdD R.2.2.1 (sd i)) / 2 = _
      rw [q2, q1]
      omega
  have g1 := gv 0 (by omega)
  have g2 := gv 1 (by omega)
  have g0 := gv 2 (by omega)
  have g1 : g 1 / 2 = mt (h 0 / 2) := g1
  have g2 : g 2 / 2 = mt (h 1 / 2) := g2
  have g0 : g 0 / 2 = mt (h 2 / 2) := g0
  have D01 := dis 0 1 (by omega) (by omega) (by omega)
  have D02 := dis 0 2 (by omega) (by omega) (by omega)
  have D12 := dis 1 2 (by omega) (by omega) (by omega)
  have m0 := mtd (h 0 / 2)
  have m1 := mtd (h 1 / 2)
  have m2 := mtd (h 2 / 2)
  have v0 := V 0
  have v1 := V 1
  have v2 := V 2
  have hd : s0 / 2 ≠ R.2.2.1.1 (s0 / 2) ∧ s0 / 2 ≠ s1 / 2 ∧ s0 / 2 ≠ R.2.2.1.1 (s1 / 2) ∧ s0 / 2 ≠ s2 / 2 ∧ s0 / 2 ≠ R.2.2.1.1 (s2 / 2) ∧ R.2.2.1.1 (s0 / 2) ≠ s1 / 2 ∧ R.2.2.1.1 (s0 / 2) ≠ R.2.2.1.1 (s1 / 2) ∧ R.2.2.1.1 (s0 / 2) ≠ s2 / 2 ∧ R.2.2.1.1 (s0 / 2) ≠ R.2.2.1.1 (s2 / 2) ∧ s1 / 2 ≠ R.2.2.1.1 (s1 / 2) ∧ s1 / 2 ≠ s2 / 2 ∧ s1 / 2 ≠ R.2.2.1.1 (s2 / 2) ∧ R.2.2.1.1 (s1 / 2) ≠ s2 / 2 ∧ R.2.2.1.1 (s1 / 2) ≠ R.2.2.1.1 (s2 / 2) ∧ s2 / 2 ≠ R.2.2.1.1 (s2 / 2) := by
    have v0 : g 0 / 2 = s0 / 2 ∧ h 0 / 2 = R.2.2.1.1 (s0 / 2) ∨ g 0 / 2 = R.2.2.1.1 (s0 / 2) ∧ h 0 / 2 = s0 / 2 := v0
    have v1 : g 1 / 2 = s1 / 2 ∧ h 1 / 2 = R.2.2.1.1 (s1 / 2) ∨ g 1 / 2 = R.2.2.1.1 (s1 / 2) ∧ h 1 / 2 = s1 / 2 := v1
    have v2 : g 2 / 2 = s2 / 2 ∧ h 2 / 2 = R.2.2.1.1 (s2 / 2) ∨ g 2 / 2 = R.2.2.1.1 (s2 / 2) ∧ h 2 / 2 = s2 / 2 := v2
    rw [g0] at v0
    rw [g1] at v1
    rw [g2] at v2
    exact six_ne (by omega) (by omega) (by omega) m0.1 m1.1 m2.1 (mt_self _) (mt_self _) (mt_self _) v0 v1 v2
  have W := sw3_at hd
  let tv : Nat → Nat := sw3 (s0 / 2) (R.2.2.1.1 (s0 / 2)) (s1 / 2) (R.2.2.1.1 (s1 / 2)) (s2 / 2) (R.2.2.1.1 (s2 / 2))
  have tvi : ∀ k, np_sw (np_sw (np_sw k (s2 / 2) (R.2.2.1.1 (s2 / 2))) (s1 / 2) (R.2.2.1.1 (s1 / 2))) (s0 / 2) (R.2.2.1.1 (s0 / 2)) = tv k := fun k => (W k).2.trans (W k).1.symm
  have tvtv : ∀ k, tv (tv k) = k := fun k => by
    rw [← tvi (tv k)]
    show np_sw (np_sw (np_sw (np_sw (np_sw (np_sw k _ _) _ _) _ _) _ _) _ _) _ _ = k
    rw [np_sw_i, np_sw_i, np_sw_i]
  have tsd : ∀ i, i < 3 → tv (sd i / 2) = R.2.2.1.1 (sd i / 2) ∧ tv (R.2.2.1.1 (sd i / 2)) = sd i / 2 := fun i hi => by
    have one : tv (sd i / 2) = R.2.2.1.1 (sd i / 2) := by
      obtain ⟨h1, h2, h3, h4, h5, h6, h7, h8, h9, h10, h11, h12, h13, h14, h15⟩ := hd
      rcases (show i = 0 ∨ i = 1 ∨ i = 2 by omega) with rfl | rfl | rfl
      · show sw3 _ _ _ _ _ _ (s0 / 2) = _
        rw [(W _).1, if_pos rfl]
        rfl
      · show sw3 _ _ _ _ _ _ (s1 / 2) = _
        rw [(W _).1, if_neg (fun e => h2 e.symm), if_neg (fun e => h6 e.symm), if_pos rfl]
        rfl
      · show sw3 _ _ _ _ _ _ (s2 / 2) = _
        rw [(W _).1, if_neg (fun e => h4 e.symm), if_neg (fun e => h8 e.symm), if_neg (fun e => h11 e.symm), if_neg (fun e => h13 e.symm), if_pos rfl]
        rfl
    refine ⟨one, ?_⟩
    rw [← one, tvtv]
  have tfar : ∀ k, (∀ i, i < 3 → k ≠ sd i / 2 ∧ k ≠ R.2.2.1.1 (sd i / 2)) → tv k = k := fun k hk => by
    have k0 : k ≠ s0 / 2 ∧ k ≠ R.2.2.1.1 (s0 / 2) := hk 0 (by omega)
    have k1 : k ≠ s1 / 2 ∧ k ≠ R.2.2.1.1 (s1 / 2) := hk 1 (by omega)
    have k2 : k ≠ s2 / 2 ∧ k ≠ R.2.2.1.1 (s2 / 2) := hk 2 (by omega)
    show sw3 _ _ _ _ _ _ k = k
    rw [(W k).1, if_neg k0.1, if_neg k0.2, if_neg k1.1, if_neg k1.2, if_neg k2.1, if_neg k2.2]
  have tlt : ∀ k, k < 2 * R.1 → tv k < 2 * R.1 := fun k hk => by
    show sw3 _ _ _ _ _ _ k < _
    unfold sw3
    exact np_sw_D (D := fun k => k < 2 * R.1) (by omega) a2 (np_sw_D (D := fun k => k < 2 * R.1) (by omega) a1 (np_sw_D (D := fun k => k < 2 * R.1) (by omega) a0 hk))
  refine pl_three (g := g) (h := h) (τ := dM tv) hv hvS stG_fl hpl (fun i _ => sdD_lt hv (sdl i)) (fun i _ => rfl) hg dis (fun d => ?_) (fun i hi => ?_) (fun i hi => ?_) (fun d hfar => ?_) (fun d hdl => ?_) (fun d hdl => ?_)
  · have := dM_h tv d
    unfold dM at this ⊢
    rw [this.1, this.2, tvtv]
    omega
  · obtain ⟨t1, t2⟩ := tsd i hi
    rcases side_vw hv (sdl i) with ⟨-, q1, q2⟩ | ⟨-, q1, q2⟩
    · show dM tv (sdD R.2.2.1 (sd i)) = mt (pn_al R.2.2.1 (sdD R.2.2.1 (sd i)))
      rw [q2, q1, mt_od]
      unfold dM
      rw [show 2 * (sd i / 2) / 2 = sd i / 2 by omega, t1]
      omega
    · show dM tv (sdD R.2.2.1 (sd i)) = mt (pn_al R.2.2.1 (sdD R.2.2.1 (sd i)))
      rw [q2, q1, mt_ev]
      unfold dM
      rw [show (2 * R.2.2.1.1 (sd i / 2) + 1) / 2 = R.2.2.1.1 (sd i / 2) by omega, t2]
      omega
  · obtain ⟨t1, t2⟩ := tsd i hi
    rcases side_vw hv (sdl i) with ⟨-, q1, q2⟩ | ⟨-, q1, q2⟩
    · show dM tv (pn_al R.2.2.1 (sdD R.2.2.1 (sd i))) = mt (sdD R.2.2.1 (sd i))
      rw [q2, q1, mt_ev]
      unfold dM
      rw [show (2 * R.2.2.1.1 (sd i / 2) + 1) / 2 = R.2.2.1.1 (sd i / 2) by omega, t2]
      omega
    · show dM tv (pn_al R.2.2.1 (sdD R.2.2.1 (sd i))) = mt (sdD R.2.2.1 (sd i))
      rw [q2, q1, mt_od]
      unfold dM
      rw [show 2 * (sd i / 2) / 2 = sd i / 2 by omega, t1]
      omega
  · unfold dM
    rw [tfar (d / 2) (fun i hi => ?_)]
    · omega
    · have hf := hfar i hi
      rcases V i with ⟨q1, q2⟩ | ⟨q1, q2⟩
      · rw [q1, q2] at hf
        exact hf
      · rw [q1, q2] at hf
        exact ⟨hf.2, hf.1⟩
  · have := tlt (d / 2) (by omega)
    have h2 := dM_h tv d
    omega
  · have hk : d / 2 < 2 * R.1 := by omega
    obtain ⟨s1, s2⟩ := swap_3 (v0 := s0 / 2) (w0 := R.2.2.1.1 (s0 / 2)) (v1 := s1 / 2) (w1 := R.2.2.1.1 (s1 / 2)) (v2 := s2 / 2) (w2 := R.2.2.1.1 (s2 / 2)) hv ⟨by omega, a0, by omega, a1, by omega, a2⟩ hk
    rw [tvi] at s1 s2
    have q := dM_h tv d
    by_cases e : d % 2 = 0
    · unfold pn_al
      rw [if_pos e, q.1, q.2, if_pos e, s1]
      unfold dM
      rw [show (2 * R.2.2.1.1 (tv (d / 2)) + 1) / 2 = R.2.2.1.1 (tv (d / 2)) by omega]
      show 2 * tv _ + 1 = 2 * tv _ + _
      omega
    · unfold pn_al
      rw [if_neg e, q.1, q.2, if_neg e, s2]
      unfold dM
      rw [show 2 * R.2.2.1.2 (tv (d / 2)) / 2 = R.2.2.1.2 (tv (d / 2)) by omega]
      show 2 * tv _ = 2 * tv _ + _
      omega
end PM2
end
section
/-! 99zzzzzzzzx.pmv3 -/
/-! moves make plane nets of plane nets -/
section PM3
variable {R Q : ow_NT} {F P : Nat → Int32} {j : Nat}
theorem mv_bs_t {N : Nat → Nat} {v w : Nat} (h : mv_bs N v w = true) : N v = w ∨ N w = v := by
  unfold mv_bs at h
  rcases (Bool.or_eq_true _ _).mp h with h | h
  · exact Or.inl (of_decide_eq_true h)
  · exact Or.inr (of_decide_eq_true h)
theorem cpy_on (hv : vn R.1 R.2.2.1) {s : Nat} (hs : s < 4 * R.1) : fc_on (nt_copy Q R).2.2.1 (nt_copy Q R).2.2.2 s = fc_on R.2.2.1 R.2.2.2 s ∧ fc_end (nt_copy Q R).2.2.1.1 s = fc_end R.2.2.1.1 s := by
  have he : fc_end (nt_copy Q R).2.2.1.1 s = fc_end R.2.2.1.1 s := by
    unfold fc_end
    split
    · exact (cpyN (by omega)).1
    · rfl
  have hl : fc_end R.2.2.1.1 s < 2 * R.1 := by
    have := (hv (s / 2) (by omega)).1
    unfold fc_end
    split <;> omega
  refine ⟨?_, he⟩
  unfold fc_on
  rw [he, cpyG (show fc_end R.2.2.1.1 s / 2 < R.1 by omega), (cpyN (mt_lt hl)).2]
theorem mv_pl0 (h : nv R) (hT : pm1 R) (hp : nt_plane R = true) (hj : j < mv_cnt R.1 0) (hB : mv_B 0 j Q R F P = true) : nt_plane (mv_T 0 j Q R F P) = true ∧ pm1 (mv_T 0 j Q R F P) := by
  have hj : j < R.1 := hj
  have hB : mv_bs R.2.2.1.1 (2 * j) (2 * j + 1) = true := hB
  show nt_plane (mv_t0 Q R j) = true ∧ pm1 (mv_t0 Q R j)
  unfold mv_t0
  rw [if_pos hB]
  refine ⟨pl_kink (T := nt_copy Q R) (vn_copy h.1) h.2.1 hj ?_ ((pl_copy h.1 h.2.1).mpr hp), pm1_rm (pm1_copy hT) hj⟩
  rw [(cpyN (show 2 * j < 2 * R.1 by omega)).1, (cpyN (show 2 * j + 1 < 2 * R.1 by omega)).1]
  exact mv_bs_t hB
theorem mv_pl2 (h : nv R) (hT : pm1 R) (hp : nt_plane R = true) (hj : j < mv_cnt R.1 2) (hB : mv_B 2 j Q R F P = true) : nt_plane (mv_T 2 j Q R F P) = true ∧ pm1 (mv_T 2 j Q R F P) := by
  have hj : j < R.1 * R.1 := hj
  have hB : mv_b2 R (j / R.1) (j % R.1) = true := hB
  have hx : j / R.1 < R.1 := Nat.div_lt_of_lt_mul hj
  show nt_plane (mv_t2 Q R (j / R.1) (j % R.1)) = true ∧ pm1 (mv_t2 Q R (j / R.1) (j % R.1))
  unfold mv_t2
  rw [if_pos hB]
  unfold mv_b2 mv_pair at hB
  obtain ⟨b1, b2⟩ := (Bool.and_eq_true _ _).mp hB
  obtain ⟨b3, b4⟩ := (Bool.and_eq_true _ _).mp b2
  obtain ⟨b5, b6⟩ := (Bool.and_eq_true _ _).mp b3
  have hy := of_decide_eq_true b1
  have hs := of_decide_eq_true b5
  generalize j / R.1 = x at *
  generalize j % R.1 = y at *
  have g1 := mv_bs_t b6
  have g2 := mv_bs_t b4
  refine ⟨pl_pair (T := nt_copy Q R) (vn_copy h.1) h.2.1 (pm1_copy hT) hx hy ?_ ?_ ?_ ((pl_copy h.1 h.2.1).mpr hp), pm1_rm (pm1_rm (pm1_copy hT) hx) (show y < R.1 - 1 by omega)⟩
  · rw [cpyG hx, cpyG (show y < R.1 by omega)]
    exact hs
  · rw [(cpyN (show 2 * x < 2 * R.1 by omega)).1, (cpyN (show 2 * y < 2 * R.1 by omega)).1]
    exact g1
  · rw [(cpyN (show 2 * x + 1 < 2 * R.1 by omega)).1, (cpyN (show 2 * y + 1 < 2 * R.1 by omega)).1]
    exact g2
theorem mv_pl4 (h : nv R) (hT : pm1 R) (hp : nt_plane R = true) (hj : j < 4 * R.1) (hB : mv_b4 R j = true) : nt_plane (mv_t4 Q R j) = true ∧ pm1 (mv_t4 Q R j) := by
  unfold mv_t4
  rw [if_pos hB]
  unfold mv_b4 mv_pass at hB
  obtain ⟨-, b2⟩ := (Bool.and_eq_true _ _).mp hB
  obtain ⟨-, b3⟩ := (Bool.and_eq_true _ _).mp b2
  obtain ⟨b4, b5⟩ := (Bool.and_eq_true _ _).mp b3
  obtain ⟨b6, b7⟩ := (Bool.and_eq_true _ _).mp b5
  obtain ⟨b8, b9⟩ := (Bool.and_eq_true _ _).mp b7
  obtain ⟨c1, -⟩ := (Bool.and_eq_true _ _).mp b9
  have e3 := of_decide_eq_true b4
  have d1 := of_decide_eq_true b6
  have d2 := of_decide_eq_true b8
  have d3 := of_decide_eq_true c1
  have hl1 := fc_on_vn h.1 R.2.2.2 hj
  have hl2 := fc_on_vn h.1 R.2.2.2 hl1
  generalize hs1 : fc_on R.2.2.1 R.2.2.2 j = s1 at *
  generalize hs2 : fc_on R.2.2.1 R.2.2.2 s1 = s2 at *
  have v1 := h.1
  obtain ⟨k1, k2⟩ := pl_pass (R := nt_copy Q R) (vn_copy v1) h.2.1 ((pl_copy v1 h.2.1).mpr hp) (s0 := j) (s1 := s1) (s2 := s2) hj (by rw [(cpy_on v1 hj).1, hs1]) (by rw [(cpy_on v1 hl1).1, hs2]) (by rw [(cpy_on v1 hl2).1, e3]) (by rw [(cpy_on v1 hj).2, (cpy_on v1 hl1).2]; exact d1) (by rw [(cpy_on v1 hl1).2, (cpy_on v1 hl2).2]; exact d2) (by rw [(cpy_on v1 hj).2, (cpy_on v1 hl2).2]; exact d3)
  rw [(cpyN (show j / 2 < 2 * R.1 by omega)).1, (cpyN (show s1 / 2 < 2 * R.1 by omega)).1, (cpyN (show s2 / 2 < 2 * R.1 by omega)).1] at k1 k2
  exact ⟨(plane_iff (T := nt_sw R (nt_sw R (nt_sw R (nt_copy Q R) j) s1) s2) k1 h.2.1).mpr k2, pm1_copy hT⟩
theorem comes1 {U : ow_NT} {x : Int32} {af : Option Nat} {u o : Nat} (hv : vn U.1 U.2.2.1) (hc : U.1 ≤ 12) (hT : pm1 U) (hp : nt_plane U = true) (hx : x = 1 ∨ x = -1) (haf : ∀ a, af = some a → a < 2 * U.1) (hk : u = 2 * U.1 ∧ o = 2 * U.1 + 1 ∨ u = 2 * U.1 + 1 ∧ o = 2 * U.1) (hn1 : vn (U.1 + 1) (nt_pair (nt_add U x) af u o).2.2.1) (hn2 : U.1 + 1 ≤ 12) : nt_plane (nt_pair (nt_add U x) af u o) = true ∧ pm1 (nt_pair (nt_add U x) af u o) := by
  have hc1 : (nt_pair (nt_add U x) af u o).1 = U.1 + 1 := nt_pair_c _ _ _ _
  have hG : (nt_pair (nt_add U x) af u o).2.2.2 = su U.2.2.2 U.1 x := by
    cases af <;> rfl
  have hpc := (plane_iff hv hc).mp hp
  have key : pn_pl (U.1 + 1) (nt_pair (nt_add U x) af u o).2.2.1 (stG (su U.2.2.2 U.1 x)) := pl_comes (c := U.1) (S := U.2.2.1) (G := U.2.2.2) (G' := su U.2.2.2 U.1 x) (u := u) (o := o) af haf hv hpc (fun x hx => if_neg (by omega)) hk U.2.1 hn1
  constructor
  · rw [plane_iff (by rw [hc1]; exact hn1) (by rw [hc1]; exact hn2), hc1, hG]
    exact key
  · intro y hy
    rw [hc1] at hy
    rw [hG]
    show (if y = U.1 then x else U.2.2.2 y) = 1 ∨ (if y = U.1 then x else U.2.2.2 y) = -1
    by_cases e : y = U.1
    · rw [if_pos e]
      exact hx
    · rw [if_neg e]
      exact hT y (by omega)
theorem mv_pl1 (h : nv R) (hT : pm1 R) (hp : nt_plane R = true) (hQ : ow_b24 Q.2.2.1) (hj : j < mv_cnt R.1 1) (hB : mv_B 1 j Q R F P = true) : nt_plane (mv_T 1 j Q R F P) = true ∧ pm1 (mv_T 1 j Q R F P) := by
  have hnv : nv (mv_t1 Q R (j / 4) (j % 4)) := (mv_nv1 h F P Q j (fun e => absurd e (by decide)) hQ hj).2 hB
  have hcc : R.1 + 1 ≤ 12 := by
    rcases Nat.lt_or_ge 12 (R.1 + 1) with q | q
    · have h9 : mv_cnt R.1 1 = 0 := if_neg (by omega)
      omega
    · exact q
  have hj : j < (2 * R.1 + 1) * 4 := by rw [show mv_cnt R.1 1 = (2 * R.1 + 1) * 4 from if_pos hcc] at hj; exact hj
  have hB : mv_b1 R (j / 4) = true := hB
  have hk : (2 * R.1 + j % 4 % 2 = 2 * R.1 ∧ mt (2 * R.1 + j % 4 % 2) = 2 * R.1 + 1) ∨ (2 * R.1 + j % 4 % 2 = 2 * R.1 + 1 ∧ mt (2 * R.1 + j % 4 % 2) = 2 * R.1) := by
    unfold mt
    by_cases e2 : (2 * R.1 + j % 4 % 2) % 2 = 0
    · rw [if_pos e2]; omega
    · rw [if_neg e2]; omega
  have et : mv_t1 Q R (j / 4) (j % 4) = nt_pair (nt_add (nt_copy Q R) (mv_sg (j % 4))) (mv_af R (j / 4)) (2 * R.1 + j % 4 % 2) (mt (2 * R.1 + j % 4 % 2)) := by
    unfold mv_t1
    rw [if_pos hB]
  have hc1 : (nt_pair (nt_add (nt_copy Q R) (mv_sg (j % 4))) (mv_af R (j / 4)) (2 * R.1 + j % 4 % 2) (mt (2 * R.1 + j % 4 % 2))).1 = R.1 + 1 := nt_pair_c _ _ _ _
  show nt_plane (mv_t1 Q R (j / 4) (j % 4)) = true ∧ pm1 (mv_t1 Q R (j / 4) (j % 4))
  rw [et] at hnv ⊢
  have hn1 := hnv.1
  rw [hc1] at hn1
  refine comes1 (U := nt_copy Q R) (vn_copy h.1) h.2.1 (pm1_copy hT) ((pl_copy h.1 h.2.1).mpr hp) ?_ (fun a ha => mv_af_lt (R := R) (show j / 4 ≤ 2 * R.1 by omega) ha) hk hn1 hcc
  unfold mv_sg
  split
  · exact Or.inl rfl
  · exact Or.inr rfl
theorem mv_pl3 (hT : pm1 R) (hB : mv_B 3 j Q R F P = true) : nt_plane (mv_T 3 j Q R F P) = true ∧ pm1 (mv_T 3 j Q R F P) := by
  have hB : (mv_b3 R F P (j / 4 / (2 * R.1 + 2)) (j / 4 % (2 * R.1 + 2)) && nt_plane (mv_t3b Q R (j / 4 / (2 * R.1 + 2)) (j / 4 % (2 * R.1 + 2)) (j % 4))) = true := hB
  obtain ⟨b1, b2⟩ := (Bool.and_eq_true _ _).mp hB
  show nt_plane (mv_t3 Q R F P (j / 4 / (2 * R.1 + 2)) (j / 4 % (2 * R.1 + 2)) (j % 4)) = true ∧ pm1 (mv_t3 Q R F P (j / 4 / (2 * R.1 + 2)) (j / 4 % (2 * R.1 + 2)) (j % 4))
  unfold mv_t3
  rw [if_pos b1]
  refine ⟨b2, fun x hx => ?_⟩
  rw [mv_t3b_c] at hx
  have hG : ∀ (U : ow_NT) (af : Option Nat) (u o : Nat), (nt_pair U af u o).2.2.2 = U.2.2.2 := fun U af u o => by cases af <;> rfl
  unfold mv_t3b mv_t3a
  rw [hG, hG]
  show (if x = R.1 + 1 then mv_s2 (j % 4) else if x = R.1 then mv_s1 (j % 4) else (nt_copy Q R).2.2.2 x) = 1 ∨ (if x = R.1 + 1 then mv_s2 (j % 4) else if x = R.1 then mv_s1 (j % 4) else (nt_copy Q R).2.2.2 x) = -1
  by_cases e : x = R.1 + 1
  · rw [if_pos e]
    unfold mv_s2
    split
    · exact Or.inr rfl
    · exact Or.inl rfl
  · rw [if_neg e]
    by_cases e2 : x = R.1
    · rw [if_pos e2]
      unfold mv_s1
      split
      · exact Or.inl rfl
      · exact Or.inr rfl
    · rw [if_neg e2]
      exact pm1_copy hT x (show x < R.1 by omega)
/-- a move of any kind -/
theorem mv_pl (h : nv R) (hT : pm1 R) (hp : nt_plane R = true) {kd : Nat} (hkd : kd < 5) (hQ : ow_b24 Q.2.2.1) (hj : j < mv_cnt R.1 kd) (hB : mv_B kd j Q R F P = true) : nt_plane (mv_T kd j Q R F P) = true ∧ pm1 (mv_T kd j Q R F P) := by
  rcases (show kd = 0 ∨ kd = 1 ∨ kd = 2 ∨ kd = 3 ∨ kd = 4 by omega) with rfl | rfl | rfl | rfl | rfl
  · exact mv_pl0 h hT hp hj hB
  · exact mv_pl1 h hT hp hQ hj hB
  · exact mv_pl2 h hT hp hj hB
  · exact mv_pl3 hT hB
  · have hj : j < 2 * (2 * R.1) := hj
    exact mv_pl4 h hT hp (by omega) hB
end PM3
end
