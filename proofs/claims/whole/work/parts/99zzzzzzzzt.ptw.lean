/-! two crossings of unlike signs go: plane nets stay plane -/
/-- the first visit behind v that is not of D -/
def pthD (N : Nat → Nat) (D : Nat → Prop) (a w : Nat) : Prop := ∀ R : Nat → Prop, R a → (∀ d, D d → R d → R (N d)) → R w
theorem pth_u {N : Nat → Nat} {D : Nat → Prop} {a w w' : Nat} (h : pthD N D a w) (h' : pthD N D a w') (hw : ¬ D w) (hw' : ¬ D w') : w' = w := by
  have step : ∀ u, D u → pthD N D u w → pthD N D (N u) w := by
    intro u hu hF R r1 r2
    have := hF (fun z => z = u ∨ pthD N D (N u) z) (Or.inl rfl) (fun z hz hR => by
      rcases hR with e | hR
      · right
        rw [e]
        exact fun R' q1 _ => q1
      · exact Or.inr (fun R' q1 q2 => q2 z hz (hR R' q1 q2)))
    rcases this with e | this
    · exact absurd (by rw [e]; exact hu) hw
    · exact this R r1 r2
  have := h' (fun u => pthD N D u w) h (fun d hd hp => step d hd hp)
  exact (this (fun z => z = w') rfl (fun d hd e => absurd (by rw [← e]; exact hd) hw')).symm
section PTW
variable {T : ow_NT} {x y : Nat}
theorem pth_skx {N : Nat → Nat} {D : Nat → Prop} {a w : Nat} (hd0 : D (2 * x)) (hd1 : D (2 * x + 1)) (h : pthD N D a w) : pthD N D a (skx N x w) := by
  intro R r1 r2
  have hw := h R r1 r2
  unfold skx
  by_cases e0 : w = 2 * x
  · rw [if_pos e0]
    rw [e0] at hw
    have h1 := r2 _ hd0 hw
    by_cases e1 : N (2 * x) = 2 * x + 1
    · rw [if_pos e1]
      rw [e1] at h1
      exact r2 _ hd1 h1
    · rw [if_neg e1]
      exact h1
  · rw [if_neg e0]
    by_cases e1 : w = 2 * x + 1
    · rw [if_pos e1]
      rw [e1] at hw
      have h1 := r2 _ hd1 hw
      by_cases e2 : N (2 * x + 1) = 2 * x
      · rw [if_pos e2]
        rw [e2] at h1
        exact r2 _ hd0 h1
      · rw [if_neg e2]
        exact h1
    · rw [if_neg e1]
      exact hw
/-- two crossings taken out: what comes behind a visit -/
theorem rm2_next (hv : vn T.1 T.2.2.1) (hc : T.1 ≤ 12) (hx : x < T.1) (hy : y < x) {v : Nat} (hvl : v < 2 * T.1) (hvx : v / 2 ≠ x) (hvy : v / 2 ≠ y) : ∃ w, w < 2 * T.1 ∧ w / 2 ≠ x ∧ w / 2 ≠ y ∧ (nt_rm (nt_rm T x) y).2.2.1.1 (rnx (T.1 - 1) y (rnx T.1 x v)) = rnx (T.1 - 1) y (rnx T.1 x w) ∧ pthD T.2.2.1.1 (fun d => d / 2 = x ∨ d / 2 = y) (T.2.2.1.1 v) w := by
  have hv1 := vn_rmT hv hx
  have hc1 : (nt_rm T x).1 ≤ 12 := by show T.1 - 1 ≤ 12; omega
  have hy1 : y < (nt_rm T x).1 := by show y < T.1 - 1; omega
  obtain ⟨s1, s2⟩ := skx_ne hv hx hvl hvx
  obtain ⟨v1, v2⟩ := rnx_f hx hvl hvx
  have ryy : ∀ u, u < 2 * T.1 → u / 2 ≠ x → (rnx T.1 x u / 2 = y ↔ u / 2 = y) := fun u hu hux => by
    unfold rnx
    split <;> omega
  have ry0 : rnx T.1 x (2 * y) = 2 * y := by unfold rnx; rw [if_neg (by omega)]
  have ry1 : rnx T.1 x (2 * y + 1) = 2 * y + 1 := by unfold rnx; rw [if_neg (by omega)]
  have n0 := rm_next hv hc hx (show 2 * y < 2 * T.1 by omega) (by omega)
  have n1 := rm_next hv hc hx (show 2 * y + 1 < 2 * T.1 by omega) (by omega)
  rw [ry0] at n0
  rw [ry1] at n1
  have nv := rm_next hv hc hx hvl hvx
  have step2 := rm_next (T := nt_rm T x) hv1 hc1 hy1 v2 (fun e => hvy ((ryy v hvl hvx).mp e))
  obtain ⟨t1, t2⟩ := skx_ne (T := nt_rm T x) hv1 hy1 v2 (fun e => hvy ((ryy v hvl hvx).mp e))
  have eC : (nt_rm T x).1 = T.1 - 1 := rfl
  rw [eC] at step2 t1
  have dx0 : (fun d => d / 2 = x ∨ d / 2 = y) (2 * x) := Or.inl (by omega)
  have dx1 : (fun d => d / 2 = x ∨ d / 2 = y) (2 * x + 1) := Or.inl (by omega)
  have dy0 : (fun d => d / 2 = x ∨ d / 2 = y) (2 * y) := Or.inr (by omega)
  have dy1 : (fun d => d / 2 = x ∨ d / 2 = y) (2 * y + 1) := Or.inr (by omega)
  have P1 : pthD T.2.2.1.1 (fun d => d / 2 = x ∨ d / 2 = y) (T.2.2.1.1 v) (skx T.2.2.1.1 x (T.2.2.1.1 v)) := pth_skx dx0 dx1 (fun R r1 _ => r1)
  have Py : ∀ u, (u = 2 * y ∨ u = 2 * y + 1) → pthD T.2.2.1.1 (fun d => d / 2 = x ∨ d / 2 = y) (T.2.2.1.1 v) u → pthD T.2.2.1.1 (fun d => d / 2 = x ∨ d / 2 = y) (T.2.2.1.1 v) (skx T.2.2.1.1 x (T.2.2.1.1 u)) := fun u hu hp => pth_skx dx0 dx1 (fun R r1 r2 => r2 u (by rcases hu with e | e <;> rw [e]; exact dy0; exact dy1) (hp R r1 r2))
  -- the visit that comes then
  have fin : ∀ k, skx (nt_rm T x).2.2.1.1 y ((nt_rm T x).2.2.1.1 (rnx T.1 x v)) = k → ∃ w, w < 2 * T.1 ∧ w / 2 ≠ x ∧ k = rnx T.1 x w ∧ pthD T.2.2.1.1 (fun d => d / 2 = x ∨ d / 2 = y) (T.2.2.1.1 v) w := by
    intro k hk
    rw [nv] at hk
    have z0 := skx_ne hv hx (show 2 * y < 2 * T.1 by omega) (show 2 * y / 2 ≠ x by omega)
    have z1 := skx_ne hv hx (show 2 * y + 1 < 2 * T.1 by omega) (show (2 * y + 1) / 2 ≠ x by omega)
    have un : ∀ u u', u < 2 * T.1 → u / 2 ≠ x → u' < 2 * T.1 → u' / 2 ≠ x → rnx T.1 x u = rnx T.1 x u' → u = u' := fun u u' h1 h2 h3 h4 e => by
      rw [← (rnx_f hx h1 h2).1, e, (rnx_f hx h3 h4).1]
    unfold skx at hk
    rw [n0, n1] at hk
    have hk : (if rnx T.1 x (skx T.2.2.1.1 x (T.2.2.1.1 v)) = 2 * y then (if rnx T.1 x (skx T.2.2.1.1 x (T.2.2.1.1 (2 * y))) = 2 * y + 1 then rnx T.1 x (skx T.2.2.1.1 x (T.2.2.1.1 (2 * y + 1))) else rnx T.1 x (skx T.2.2.1.1 x (T.2.2.1.1 (2 * y)))) else if rnx T.1 x (skx T.2.2.1.1 x (T.2.2.1.1 v)) = 2 * y + 1 then (if rnx T.1 x (skx T.2.2.1.1 x (T.2.2.1.1 (2 * y + 1))) = 2 * y then rnx T.1 x (skx T.2.2.1.1 x (T.2.2.1.1 (2 * y))) else rnx T.1 x (skx T.2.2.1.1 x (T.2.2.1.1 (2 * y + 1)))) else rnx T.1 x (skx T.2.2.1.1 x (T.2.2.1.1 v))) = k := hk
    by_cases e0 : rnx T.1 x (skx T.2.2.1.1 x (T.2.2.1.1 v)) = 2 * y
    · rw [if_pos e0] at hk
      have e0' : skx T.2.2.1.1 x (T.2.2.1.1 v) = 2 * y := un _ _ s1 s2 (by omega) (by omega) (e0.trans ry0.symm)
      have Q0 := Py (2 * y) (Or.inl rfl) (by rw [← e0']; exact P1)
      by_cases e1 : rnx T.1 x (skx T.2.2.1.1 x (T.2.2.1.1 (2 * y))) = 2 * y + 1
      · rw [if_pos e1] at hk
        have e1' : skx T.2.2.1.1 x (T.2.2.1.1 (2 * y)) = 2 * y + 1 := un _ _ z0.1 z0.2 (by omega) (by omega) (e1.trans ry1.symm)
        exact ⟨_, z1.1, z1.2, hk.symm, Py (2 * y + 1) (Or.inr rfl) (by rw [← e1']; exact Q0)⟩
      · rw [if_neg e1] at hk
        exact ⟨_, z0.1, z0.2, hk.symm, Q0⟩
    · rw [if_neg e0] at hk
      by_cases e1 : rnx T.1 x (skx T.2.2.1.1 x (T.2.2.1.1 v)) = 2 * y + 1
      · rw [if_pos e1] at hk
        have e1' : skx T.2.2.1.1 x (T.2.2.1.1 v) = 2 * y + 1 := un _ _ s1 s2 (by omega) (by omega) (e1.trans ry1.symm)
        have Q1 := Py (2 * y + 1) (Or.inr rfl) (by rw [← e1']; exact P1)
        by_cases e2 : rnx T.1 x (skx T.2.2.1.1 x (T.2.2.1.1 (2 * y + 1))) = 2 * y
        · rw [if_pos e2] at hk
          have e2' : skx T.2.2.1.1 x (T.2.2.1.1 (2 * y + 1)) = 2 * y := un _ _ z1.1 z1.2 (by omega) (by omega) (e2.trans ry0.symm)
          exact ⟨_, z0.1, z0.2, hk.symm, Py (2 * y) (Or.inl rfl) (by rw [← e2']; exact Q1)⟩
        · rw [if_neg e2] at hk
          exact ⟨_, z1.1, z1.2, hk.symm, Q1⟩
      · rw [if_neg e1] at hk
        exact ⟨_, s1, s2, hk.symm, P1⟩
  obtain ⟨w, w1, w2, w3, w4⟩ := fin _ rfl
  refine ⟨w, w1, w2, fun e => t2 ?_, ?_, w4⟩
  · rw [w3]
    exact (ryy w w1 w2).mpr e
  · rw [step2, w3]
/-- a net that shows what is left, and the two crossings apart, is plane: what is left is plane -/
theorem pl_rm2 (hv : vn T.1 T.2.2.1) (hc : T.1 ≤ 12) (hx : x < T.1) (hy : y < x) {S2 : ow_NP} (hv2 : vn T.1 S2) (h2 : ∀ v, v < 2 * T.1 → v / 2 ≠ x → v / 2 ≠ y → S2.1 v / 2 ≠ x ∧ S2.1 v / 2 ≠ y ∧ pthD T.2.2.1.1 (fun d => d / 2 = x ∨ d / 2 = y) (T.2.2.1.1 v) (S2.1 v)) (hp : pn_pl T.1 S2 (stG T.2.2.2)) : nt_plane (nt_rm (nt_rm T x) y) = true := by
  have hv1 := vn_rmT hv hx
  have hy1 : y < (nt_rm T x).1 := by show y < T.1 - 1; omega
  have hc1 : (nt_rm (nt_rm T x) y).1 ≤ 12 := by show T.1 - 1 - 1 ≤ 12; omega
  have hvA := vn_rmT hv1 hy1
  rw [plane_iff hvA hc1]
  have eC : (nt_rm T x).1 = T.1 - 1 := rfl
  have bk : ∀ k, k < 2 * (T.1 - 1 - 1) → rnx (T.1 - 1) y (rnx T.1 x (rnv2 T.1 x (rnv2 (T.1 - 1) y k))) = k ∧ rnv2 T.1 x (rnv2 (T.1 - 1) y k) < 2 * T.1 ∧ rnv2 T.1 x (rnv2 (T.1 - 1) y k) / 2 ≠ x ∧ rnv2 T.1 x (rnv2 (T.1 - 1) y k) / 2 ≠ y := fun k hk => by
    obtain ⟨a1, a2, a3⟩ := rnx_b (T := nt_rm T x) hy1 (k := k) hk
    rw [eC] at a1 a2 a3
    obtain ⟨b1, b2, b3⟩ := rnx_b hx (k := rnv2 (T.1 - 1) y k) (by omega)
    refine ⟨by rw [b1, a1], b2, b3, fun e => a3 ?_⟩
    generalize rnv2 (T.1 - 1) y k = k' at *
    unfold rnv2 at e
    split at e <;> omega
  have sgv : ∀ (U : ow_NT) (z k : Nat), z < U.1 → k < 2 * (U.1 - 1) → (nt_rm U z).2.2.2 (k / 2) = U.2.2.2 (rnv2 U.1 z k / 2) ∧ rnv2 U.1 z k % 2 = k % 2 := fun U z k hz hk => by
    refine ⟨?_, by unfold rnv2; split <;> omega⟩
    show np_rmG U.2.2.2 z (U.1 - 1) (k / 2) = _
    unfold np_rmG rnv2
    by_cases e : k / 2 = z
    · rw [if_pos e]
      by_cases ex : z = U.1 - 1
      · omega
      · rw [if_neg ex, show (2 * (U.1 - 1) + k % 2) / 2 = U.1 - 1 by omega]
        exact if_pos e
    · rw [if_neg e]
      by_cases ex : z = U.1 - 1
      · rw [if_pos ex]
      · rw [if_neg ex]
        exact if_neg e
  refine sub_pl (ψ := fun k => rnv2 T.1 x (rnv2 (T.1 - 1) y k)) hv2 stG_fl hvA (fun k hk => ?_) (fun u v hu hv9 e => ?_) hp
  · have hk : k < 2 * (T.1 - 1 - 1) := hk
    obtain ⟨b1, b2, b3, b4⟩ := bk k hk
    refine ⟨b2, ?_, ?_, ?_⟩
    · obtain ⟨w, w1, w2, w3, w4, w5⟩ := rm2_next hv hc hx hy b2 b3 b4
      obtain ⟨q1, q2, q3⟩ := h2 _ b2 b3 b4
      have ew := pth_u w5 q3 (fun h9 => h9.elim w2 w3) (fun h9 => h9.elim q1 q2)
      rw [b1] at w4
      show S2.1 (rnv2 T.1 x (rnv2 (T.1 - 1) y k)) = rnv2 T.1 x (rnv2 (T.1 - 1) y ((nt_rm (nt_rm T x) y).2.2.1.1 k))
      rw [ew, w4]
      obtain ⟨f1, f2⟩ := rnx_f hx w1 w2
      have hr : rnx T.1 x w / 2 ≠ y := fun e => w3 (by unfold rnx at e; split at e <;> omega)
      have := (rnx_f (T := nt_rm T x) hy1 f2 hr).1
      rw [eC] at this
      rw [this, f1]
    · have mr : ∀ c z k, mt (rnv2 c z k) = rnv2 c z (mt k) := fun c z k => by
        unfold rnv2
        rw [mt_h2]
        by_cases e : k / 2 = z
        · rw [if_pos e, if_pos e]
          unfold mt
          split <;> split <;> omega
        · rw [if_neg e, if_neg e]
      show mt (rnv2 T.1 x (rnv2 (T.1 - 1) y k)) = rnv2 T.1 x (rnv2 (T.1 - 1) y (mt k))
      rw [mr, mr]
    · obtain ⟨g1, g2⟩ := sgv (nt_rm T x) y k hy1 hk
      rw [eC] at g1 g2
      have a2 := (rnx_b (T := nt_rm T x) hy1 (k := k) hk).2.1
      rw [eC] at a2
      obtain ⟨g3, g4⟩ := sgv T x (rnv2 (T.1 - 1) y k) hx a2
      show stG T.2.2.2 (rnv2 T.1 x (rnv2 (T.1 - 1) y k)) = stG (nt_rm (nt_rm T x) y).2.2.2 k
      unfold stG
      rw [g1, g3, g4, g2]
  · have h1 := (bk u hu).1
    have h3 := (bk v hv9).1
    rw [← h1, e, h3]
/-- the visits of two crossings, one behind the other over and under, laid apart -/
theorem pl_pair0 {c : Nat} {S : ow_NP} {b : Nat → Bool} {p1 p2 q1 q2 : Nat} (hv : vn c S) (hb : pn_fl b) (hp : pn_pl c S b) (l1 : p1 < 2 * c) (l2 : p2 < 2 * c) (l3 : q1 < 2 * c) (l4 : q2 < 2 * c) (hpq : S.1 p1 = p2) (hqq : S.1 q1 = q2) (hpp : p1 ≠ p2) (hbb : b p2 = !b p1) (hm : mt p1 = q1 ∧ mt p2 = q2 ∨ mt p1 = q2 ∧ mt p2 = q1) (hd : p1 ≠ q1 ∧ p1 ≠ q2 ∧ p2 ≠ q1 ∧ p2 ≠ q2 ∧ q1 ≠ q2) : ∃ S2, vn c S2 ∧ pn_pl c S2 b ∧ ∀ v, v < 2 * c → v ≠ p1 → v ≠ p2 → v ≠ q1 → v ≠ q2 → S2.1 v ≠ p1 ∧ S2.1 v ≠ p2 ∧ S2.1 v ≠ q1 ∧ S2.1 v ≠ q2 ∧ pthD S.1 (fun d => d = p1 ∨ d = p2 ∨ d = q1 ∨ d = q2) (S.1 v) (S2.1 v) := by
  obtain ⟨d1, d2, d3, d4, d5⟩ := hd
  obtain ⟨a1, a2, a3, a4⟩ := hv p1 l1
  have n2 := (hv p2 l2).1
  -- the ring of the visits over
  have first : ∃ S1, vn c S1 ∧ pn_pl c S1 b ∧ S1.1 p2 = p1 ∧ S1.1 p1 = p2 ∧ ∀ v, v < 2 * c → v ≠ p1 → v ≠ p2 → S1.1 v = if S.1 v = p1 then S.1 p2 else S.1 v := by
    by_cases e : S.2 p1 = p2
    · have e1 : S.1 p2 = p1 := by rw [← e]; exact a4
      refine ⟨S, hv, hp, e1, hpq, fun v hvl g1 g2 => ?_⟩
      rw [if_neg (fun h9 => g2 (vn_inj hv hvl l2 (h9.trans e1.symm)))]
    · have hne : S.2 p1 ≠ p1 := fun e9 => by
        rw [e9] at a4
        exact hpp (a4.symm.trans hpq)
      refine ⟨np_exchange S (S.2 p1) p2, vn_exchange hv a2 l2, pn_exch hv hb hp a2 l2 e (Or.inr ?_), ?_, ?_, fun v hvl g1 g2 => ?_⟩
      · have f0 : pn_ph S b (2 * S.2 p1) = pn_rt b (2 * p1 + 1) := by
          unfold pn_ph
          rw [pn_al0, a4]
        have f1 : pn_ph S b (2 * S.1 p2 + 1) = pn_rt b (2 * p2) := by
          unfold pn_ph
          rw [pn_al1, (hv p2 l2).2.2.1]
        have g0 : pn_ph S b (2 * q1) = pn_rt b (2 * q2 + 1) := by
          unfold pn_ph
          rw [pn_al0, hqq]
        have g1 : pn_ph S b (2 * q2 + 1) = pn_rt b (2 * q1) := by
          unfold pn_ph
          rw [pn_al1, ← hqq, (hv q1 l3).2.2.1]
        rw [a4]
        have back : pm_or (pn_ph S b) (2 * S.1 p2 + 1) (2 * p1 + 1) → pm_or (pn_ph S b) (2 * p1 + 1) (2 * S.1 p2 + 1) := fun h9 => or_sy (n := 4 * c) (fun d hd => pn_ph_lt hv hd) (fun d e hd he q => pn_ph_inj hv hb hd he q) (by omega) h9
        rcases hm with ⟨m1, m2⟩ | ⟨m1, m2⟩
        · have bq1 : b q1 = !b p1 := by rw [← m1]; exact hb p1
          have bq2 : b q2 = !b p2 := by rw [← m2]; exact hb p2
          have mq1 : mt q1 = p1 := by rw [← m1, mt_mt]
          have mq2 : mt q2 = p2 := by rw [← m2, mt_mt]
          cases e1 : b p1 with
          | true =>
            left
            refine ⟨2, ?_⟩
            show pn_ph S b (pn_ph S b (2 * S.2 p1)) = 2 * p2
            rw [f0, pn_at1, e1, if_pos rfl, m1, g0, pn_at1, bq2, hbb, e1, mq2]
            rfl
          | false =>
            right
            refine back ⟨2, ?_⟩
            show pn_ph S b (pn_ph S b (2 * S.1 p2 + 1)) = 2 * p1 + 1
            rw [f1, pn_at0, hbb, e1, m2]
            show pn_ph S b (2 * q2 + 1) = _
            rw [g1, pn_at0, bq1, e1, mq1]
            rfl
        · have bq1 : b q1 = !b p2 := by rw [← m2]; exact hb p2
          have bq2 : b q2 = !b p1 := by rw [← m1]; exact hb p1
          have mq1 : mt q1 = p2 := by rw [← m2, mt_mt]
          have mq2 : mt q2 = p1 := by rw [← m1, mt_mt]
          cases e1 : b p1 with
          | true =>
            right
            refine back ⟨2, ?_⟩
            show pn_ph S b (pn_ph S b (2 * S.1 p2 + 1)) = 2 * p1 + 1
            rw [f1, pn_at0, hbb, e1, m2]
            show pn_ph S b (2 * q1) = _
            rw [g0, pn_at1, bq2, e1, mq2]
            rfl
          | false =>
            left
            refine ⟨2, ?_⟩
            show pn_ph S b (pn_ph S b (2 * S.2 p1)) = 2 * p2
            rw [f0, pn_at1, e1, m1]
            show pn_ph S b (2 * q2 + 1) = _
            rw [g1, pn_at0, bq1, hbb, e1, mq1]
            rfl
      · rw [np_exchange_1, if_pos rfl, a4]
      · rw [np_exchange_1, if_neg hpp, if_neg (fun h9 => hne h9.symm), hpq]
      · rw [np_exchange_1, if_neg g2]
        by_cases h9 : S.1 v = p1
        · have : v = S.2 p1 := by rw [← h9, (hv v hvl).2.2.1]
          rw [if_pos this, if_pos h9]
        · rw [if_neg (fun h8 => h9 (by rw [h8, a4])), if_neg h9]
  obtain ⟨S1, hv1, hp1, r1, r2, r3⟩ := first
  have s1 : S1.1 q1 = q2 := by
    rw [r3 q1 l3 (fun e => d1 e.symm) (fun e => d3 e.symm), hqq, if_neg (fun e => d2 e.symm)]
  obtain ⟨c1, c2, c3, c4⟩ := hv1 q1 l3
  have m21 : (mt p1 = q1 ∨ mt p1 = q2) ∧ (mt p2 = q1 ∨ mt p2 = q2) ∧ (mt q1 = p1 ∨ mt q1 = p2) ∧ (mt q2 = p1 ∨ mt q2 = p2) := by
    rcases hm with ⟨m1, m2⟩ | ⟨m1, m2⟩
    · exact ⟨Or.inl m1, Or.inr m2, Or.inl (by rw [← m1, mt_mt]), Or.inr (by rw [← m2, mt_mt])⟩
    · exact ⟨Or.inr m1, Or.inl m2, Or.inr (by rw [← m2, mt_mt]), Or.inl (by rw [← m1, mt_mt])⟩
  have second : ∃ S2, vn c S2 ∧ pn_pl c S2 b ∧ ∀ v, v < 2 * c → v ≠ q1 → v ≠ q2 → S2.1 v = if S1.1 v = q1 then S1.1 q2 else S1.1 v := by
    by_cases e : S1.2 q1 = q2
    · have e1 : S1.1 q2 = q1 := by rw [← e]; exact c4
      refine ⟨S1, hv1, hp1, fun v hvl g1 g2 => ?_⟩
      rw [if_neg (fun h9 => g2 (vn_inj hv1 hvl l4 (h9.trans e1.symm)))]
    · have hne1 : S1.2 q1 ≠ q1 := fun e9 => by
        rw [e9] at c4
        exact d5 (c4.symm.trans s1)
      have hne2 : S1.2 q1 ≠ p1 := fun e9 => by
        rw [e9, r2] at c4
        exact d3 c4
      have hne3 : S1.2 q1 ≠ p2 := fun e9 => by
        rw [e9, r1] at c4
        exact d1 c4
      have hv2 := vn_exchange hv1 c2 l4
      have x1 : (np_exchange S1 (S1.2 q1) q2).1 p1 = p2 := by rw [np_exchange_1, if_neg d2, if_neg (fun h9 => hne2 h9.symm), r2]
      have x2 : (np_exchange S1 (S1.2 q1) q2).1 p2 = p1 := by rw [np_exchange_1, if_neg d4, if_neg (fun h9 => hne3 h9.symm), r1]
      have x3 : (np_exchange S1 (S1.2 q1) q2).1 q1 = q2 := by rw [np_exchange_1, if_neg d5, if_neg (fun h9 => hne1 h9.symm), s1]
      have x4 : (np_exchange S1 (S1.2 q1) q2).1 q2 = q1 := by rw [np_exchange_1, if_pos rfl, c4]
      have hnr : ¬ rch c (np_exchange S1 (S1.2 q1) q2) (S1.2 q1) q2 := by
        intro h
        have h2 := rch_sy hv2 c2 h
        have := h2 (fun k => k = p1 ∨ k = p2 ∨ k = q1 ∨ k = q2) (Or.inr (Or.inr (Or.inr rfl))) (fun j _ hj => by
          rcases hj with rfl | rfl | rfl | rfl
          · exact Or.inr (Or.inl x1)
          · exact Or.inl x2
          · exact Or.inr (Or.inr (Or.inr x3))
          · exact Or.inr (Or.inr (Or.inl x4))) (fun j _ hj => by
          rcases hj with rfl | rfl | rfl | rfl
          · exact Or.inr (Or.inr m21.1)
          · exact Or.inr (Or.inr m21.2.1)
          · rcases m21.2.2.1 with h9 | h9
            · exact Or.inl h9
            · exact Or.inr (Or.inl h9)
          · rcases m21.2.2.2 with h9 | h9
            · exact Or.inl h9
            · exact Or.inr (Or.inl h9))
        rcases this with h9 | h9 | h9 | h9
        · exact hne2 h9
        · exact hne3 h9
        · exact hne1 h9
        · exact e h9
      refine ⟨np_exchange S1 (S1.2 q1) q2, hv2, pn_exch hv1 hb hp1 c2 l4 e (Or.inr (Or.inl (ex_bridge hv1 hb hp1 c2 l4 hnr).1)), fun v hvl g1 g2 => ?_⟩
      rw [np_exchange_1, if_neg g2]
      by_cases h9 : S1.1 v = q1
      · have : v = S1.2 q1 := by rw [← h9, (hv1 v hvl).2.2.1]
        rw [if_pos this, if_pos h9]
      · rw [if_neg (fun h8 => h9 (by rw [h8, c4])), if_neg h9]
  obtain ⟨S2, hv2, hp2, t1⟩ := second
  refine ⟨S2, hv2, hp2, fun v hvl g1 g2 g3 g4 => ?_⟩
  have P0 : ∀ {R : Nat → Prop}, (∀ d, (d = p1 ∨ d = p2 ∨ d = q1 ∨ d = q2) → R d → R (S.1 d)) → ∀ u, u < 2 * c → u ≠ p1 → u ≠ p2 → R (S.1 u) → R (S1.1 u) := fun {R} rd u hu h1 h2 hr => by
    rw [r3 u hu h1 h2]
    by_cases e : S.1 u = p1
    · rw [if_pos e]
      rw [e] at hr
      have k1 := rd p1 (Or.inl rfl) hr
      rw [hpq] at k1
      exact rd p2 (Or.inr (Or.inl rfl)) k1
    · rw [if_neg e]
      exact hr
  have hS1p1 : S1.1 v ≠ p1 := fun e => g2 (vn_inj hv1 hvl l2 (e.trans r1.symm))
  have hS1p2 : S1.1 v ≠ p2 := fun e => g1 (vn_inj hv1 hvl l1 (e.trans r2.symm))
  have hS1q2 : S1.1 v ≠ q2 := fun e => g3 (vn_inj hv1 hvl l3 (e.trans s1.symm))
  have h42 : S1.1 q2 ≠ p1 := fun e => d4 (vn_inj hv1 l4 l2 (e.trans r1.symm)).symm
  have h41 : S1.1 q2 ≠ p2 := fun e => d2 (vn_inj hv1 l4 l1 (e.trans r2.symm)).symm
  have h43 : S1.1 q2 ≠ q2 := fun e => d5 (vn_inj hv1 l4 l3 (e.trans s1.symm)).symm
  rw [t1 v hvl g3 g4]
  by_cases e : S1.1 v = q1
  · rw [if_pos e]
    refine ⟨h42, h41, fun e9 => g4 (vn_inj hv1 hvl l4 (e.trans e9.symm)), h43, fun R ra rd => ?_⟩
    have k1 := P0 rd v hvl g1 g2 ra
    rw [e] at k1
    have k2 := rd q1 (Or.inr (Or.inr (Or.inl rfl))) k1
    rw [hqq] at k2
    exact P0 rd q2 l4 (fun h9 => d2 h9.symm) (fun h9 => d4 h9.symm) (rd q2 (Or.inr (Or.inr (Or.inr rfl))) k2)
  · rw [if_neg e]
    exact ⟨hS1p1, hS1p2, e, hS1q2, fun R ra rd => P0 rd v hvl g1 g2 ra⟩
/-- two crossings of unlike signs go -/
theorem pl_pair (hv : vn T.1 T.2.2.1) (hc : T.1 ≤ 12) (hT : pm1 T) (hx : x < T.1) (hy : y < x) (hs : T.2.2.2 x ≠ T.2.2.2 y) (ho : T.2.2.1.1 (2 * x) = 2 * y ∨ T.2.2.1.1 (2 * y) = 2 * x) (hu : T.2.2.1.1 (2 * x + 1) = 2 * y + 1 ∨ T.2.2.1.1 (2 * y + 1) = 2 * x + 1) (hp : nt_plane T = true) : nt_plane (nt_rm (nt_rm T x) y) = true := by
  have hpl := (plane_iff hv hc).mp hp
  have hst : stG T.2.2.2 (2 * y) = !stG T.2.2.2 (2 * x) := by
    unfold stG
    rw [show 2 * y / 2 = y by omega, show 2 * x / 2 = x by omega, show 2 * y % 2 = 0 by omega, show 2 * x % 2 = 0 by omega]
    rcases hT x hx with h1 | h1 <;> rcases hT y (by omega) with h2 | h2 <;> rw [h1, h2] <;> first | rfl | exact absurd (h1.trans h2.symm) hs
  have fin : ∀ {S2 : ow_NP} {p1 p2 q1 q2 : Nat}, (p1 = 2 * x ∧ p2 = 2 * y ∨ p1 = 2 * y ∧ p2 = 2 * x) → (q1 = 2 * x + 1 ∧ q2 = 2 * y + 1 ∨ q1 = 2 * y + 1 ∧ q2 = 2 * x + 1) → vn T.1 S2 → pn_pl T.1 S2 (stG T.2.2.2) → (∀ v, v < 2 * T.1 → v ≠ p1 → v ≠ p2 → v ≠ q1 → v ≠ q2 → S2.1 v ≠ p1 ∧ S2.1 v ≠ p2 ∧ S2.1 v ≠ q1 ∧ S2.1 v ≠ q2 ∧ pthD T.2.2.1.1 (fun d => d = p1 ∨ d = p2 ∨ d = q1 ∨ d = q2) (T.2.2.1.1 v) (S2.1 v)) → nt_plane (nt_rm (nt_rm T x) y) = true := by
    intro S2 p1 p2 q1 q2 e1 e2 h1 h2 h3
    refine pl_rm2 hv hc hx hy h1 (fun v hvl g1 g2 => ?_) h2
    obtain ⟨k1, k2, k3, k4, k5⟩ := h3 v hvl (by omega) (by omega) (by omega) (by omega)
    refine ⟨by omega, by omega, fun R ra rd => k5 R ra (fun d hd => rd d ?_)⟩
    show d / 2 = x ∨ d / 2 = y
    omega
  have mx := mt_ev x
  have my := mt_ev y
  rcases ho with ho | ho
  · rcases hu with hu | hu
    · obtain ⟨S2, h1, h2, h3⟩ := pl_pair0 hv stG_fl hpl (show 2 * x < 2 * T.1 by omega) (show 2 * y < 2 * T.1 by omega) (show 2 * x + 1 < 2 * T.1 by omega) (show 2 * y + 1 < 2 * T.1 by omega) ho hu (by omega) hst (Or.inl ⟨mx, my⟩) (by omega)
      exact fin (Or.inl ⟨rfl, rfl⟩) (Or.inl ⟨rfl, rfl⟩) h1 h2 h3
    · obtain ⟨S2, h1, h2, h3⟩ := pl_pair0 hv stG_fl hpl (show 2 * x < 2 * T.1 by omega) (show 2 * y < 2 * T.1 by omega) (show 2 * y + 1 < 2 * T.1 by omega) (show 2 * x + 1 < 2 * T.1 by omega) ho hu (by omega) hst (Or.inr ⟨mx, my⟩) (by omega)
      exact fin (Or.inl ⟨rfl, rfl⟩) (Or.inr ⟨rfl, rfl⟩) h1 h2 h3
  · have hst2 : stG T.2.2.2 (2 * x) = !stG T.2.2.2 (2 * y) := by rw [hst, Bool.not_not]
    rcases hu with hu | hu
    · obtain ⟨S2, h1, h2, h3⟩ := pl_pair0 hv stG_fl hpl (show 2 * y < 2 * T.1 by omega) (show 2 * x < 2 * T.1 by omega) (show 2 * x + 1 < 2 * T.1 by omega) (show 2 * y + 1 < 2 * T.1 by omega) ho hu (by omega) hst2 (Or.inr ⟨my, mx⟩) (by omega)
      exact fin (Or.inr ⟨rfl, rfl⟩) (Or.inl ⟨rfl, rfl⟩) h1 h2 h3
    · obtain ⟨S2, h1, h2, h3⟩ := pl_pair0 hv stG_fl hpl (show 2 * y < 2 * T.1 by omega) (show 2 * x < 2 * T.1 by omega) (show 2 * y + 1 < 2 * T.1 by omega) (show 2 * x + 1 < 2 * T.1 by omega) ho hu (by omega) hst2 (Or.inl ⟨my, mx⟩) (by omega)
      exact fin (Or.inr ⟨rfl, rfl⟩) (Or.inr ⟨rfl, rfl⟩) h1 h2 h3
end PTW
