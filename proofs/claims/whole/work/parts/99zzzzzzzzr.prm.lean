/-! crossings taken out of plane nets -/
def skx (N : Nat → Nat) (x w : Nat) : Nat := if w = 2 * x then (if N (2 * x) = 2 * x + 1 then N (2 * x + 1) else N (2 * x)) else if w = 2 * x + 1 then (if N (2 * x + 1) = 2 * x then N (2 * x) else N (2 * x + 1)) else w
def rnx (c x v : Nat) : Nat := if v / 2 = c - 1 then 2 * x + v % 2 else v
theorem gl_id (p : vT) : gl (fun x => x) p = 2 * p.1 + p.2 := rfl
section PRM
variable {T : ow_NT} {x : Nat}
theorem sc_wox {A : rn_L} {L : List vT} (hn : L.Nodup) {p : vT} (hp : p ∈ L) (h0 : p ≠ (x, 0)) (h1 : p ≠ (x, 1)) (hF : (x, 0) ∈ L ∨ (x, 1) ∈ L ∨ True) : sc ((L.filter (fun q => decide (q ≠ (x, 0)))).filter (fun q => decide (q ≠ (x, 1)))) p = (let s := sc L p
    if s = (x, 0) then (if sc L (x, 0) = (x, 1) then sc L (x, 1) else sc L (x, 0)) else if s = (x, 1) then (if sc L (x, 1) = (x, 0) then sc L (x, 0) else sc L (x, 1)) else s) := by
  have m1 : p ∈ L.filter (fun q => decide (q ≠ (x, 0))) := List.mem_filter.mpr ⟨hp, decide_eq_true h0⟩
  have n1 : (L.filter (fun q => decide (q ≠ (x, 0)))).Nodup := hn.filter _
  have hne : (x, 1) ≠ ((x, 0) : vT) := fun e => by cases e
  have e1 := sc_fil (r := (x, 0)) hn hp h0
  rw [sc_fil (r := (x, 1)) n1 m1 h1, e1]
  dsimp only
  have in0 : ∀ {q : vT}, q ∈ L → sc L q = (x, 1) → (x, 1) ∈ L := fun hq e => by rw [← e]; exact sc_in hq hn
  by_cases c0 : sc L p = (x, 0)
  · rw [if_pos c0, if_pos c0]
    have h00 : (x, 0) ∈ L := by rw [← c0]; exact sc_in hp hn
    by_cases c1 : sc L (x, 0) = (x, 1)
    · rw [if_pos c1, if_pos c1]
      have h11 : (x, 1) ∈ L := in0 h00 c1
      rw [sc_fil (r := (x, 0)) hn h11 hne]
      by_cases c2 : sc L (x, 1) = (x, 0)
      · -- then p could not come here
        exfalso
        exact h1 (sc_inj hn hp h11 (c0.trans c2.symm))
      · rw [if_neg c2]
    · rw [if_neg c1, if_neg c1]
  · rw [if_neg c0, if_neg c0]
    by_cases c1 : sc L p = (x, 1)
    · rw [if_pos c1, if_pos c1]
      have h11 : (x, 1) ∈ L := in0 hp c1
      rw [sc_fil (r := (x, 0)) hn h11 hne]
    · rw [if_neg c1, if_neg c1]
/-- what comes behind a visit when a crossing has gone -/
theorem rm_next (hv : vn T.1 T.2.2.1) (hc : T.1 ≤ 12) (hx : x < T.1) {v : Nat} (hvl : v < 2 * T.1) (hne : v / 2 ≠ x) : (nt_rm T x).2.2.1.1 (rnx T.1 x v) = rnx T.1 x (skx T.2.2.1.1 x (T.2.2.1.1 v)) := by
  obtain ⟨rl, hrl⟩ := rlK_ex hv
  obtain ⟨hi, -⟩ := netL_iso hrl hv hc
  generalize netL rl T = A at hi
  have hV := isoV_of hi hv
  have lt2 : ∀ p, p ∈ A.flatten → p.2 < 2 := fun p hp => (hV.1.1.2 p hp).2.1
  obtain ⟨q0, q1, q2⟩ := gl_sur hV (show 2 * x < 2 * T.1 by omega)
  have hq2 := lt2 q0 q1
  have eq0 : q0 = (x, 0) := by
    rw [gl_id] at q2
    exact Prod.ext (show q0.1 = x by omega) (show q0.2 = 0 by omega)
  rw [eq0] at q1
  obtain ⟨f', hf', ef⟩ := iso_rm hV q1
  have rg : ∀ p : vT, p.2 < 2 → gl f' p = rnx T.1 x (gl (fun x => x) p) := fun p hp => by
    rw [gl_id]
    unfold gl rnx
    rw [ef p.1]
    by_cases e : p.1 = T.1 - 1
    · rw [if_pos e, if_pos (by omega)]
      omega
    · rw [if_neg e, if_neg (by omega)]
  obtain ⟨p, p1, p2⟩ := gl_sur hV hvl
  have hp2 := lt2 p p1
  have hpx : p.1 ≠ x := fun e => hne (by rw [← p2, gl_id]; omega)
  obtain ⟨L, l1, l2⟩ := List.mem_flatten.mp p1
  have nL := L_nd hV.1.1.1 l1
  have hp0 : p ≠ (x, 0) := fun e => hpx (by rw [e])
  have hp1 : p ≠ (x, 1) := fun e => hpx (by rw [e])
  have l3 : (L.filter (fun q => decide (q ≠ (x, 0)))).filter (fun q => decide (q ≠ (x, 1))) ∈ wox A x := List.mem_map.mpr ⟨_, List.mem_map.mpr ⟨L, l1, rfl⟩, rfl⟩
  have l4 : p ∈ (L.filter (fun q => decide (q ≠ (x, 0)))).filter (fun q => decide (q ≠ (x, 1))) := List.mem_filter.mpr ⟨List.mem_filter.mpr ⟨l2, decide_eq_true hp0⟩, decide_eq_true hp1⟩
  have key := (hf'.2 _ l3 p l4).1
  have hsF : ∀ r, r ∈ L → r ∈ A.flatten := fun r hr => List.mem_flatten.mpr ⟨L, l1, hr⟩
  have nxt : ∀ r, r ∈ L → T.2.2.1.1 (gl (fun x => x) r) = gl (fun x => x) (sc L r) := fun r hr => (hV.2 L l1 r hr).1
  have ginj : ∀ r s, r ∈ A.flatten → s ∈ A.flatten → gl (fun x => x) r = gl (fun x => x) s → r = s := fun r s hr hs e => gl_gin hV.1 r s hr hs e
  have hx1 : (x, 1) ∈ A.flatten := (hV.1.1.2 _ q1).2.2
  rw [rg p hp2, sc_wox (A := A) nL l2 hp0 hp1 (Or.inr (Or.inr trivial))] at key
  have key : (nt_rm T x).2.2.1.1 (rnx T.1 x (gl (fun x => x) p)) = gl f' (let s := sc L p
    if s = (x, 0) then (if sc L (x, 0) = (x, 1) then sc L (x, 1) else sc L (x, 0)) else if s = (x, 1) then (if sc L (x, 1) = (x, 0) then sc L (x, 0) else sc L (x, 1)) else s) := key
  rw [p2] at key
  rw [key]
  have en : T.2.2.1.1 v = gl (fun x => x) (sc L p) := by rw [← p2]; exact nxt p l2
  have hsL := sc_in l2 nL
  dsimp only
  rw [en]
  unfold skx
  by_cases c0 : sc L p = (x, 0)
  · have h00 : (x, 0) ∈ L := by rw [← c0]; exact hsL
    have e0 := nxt _ h00
    have s00 := sc_in h00 nL
    rw [if_pos c0, c0, if_pos (show gl (fun x => x) (x, 0) = 2 * x from rfl)]
    have e0 : T.2.2.1.1 (2 * x) = gl (fun x => x) (sc L (x, 0)) := e0
    by_cases c1 : sc L (x, 0) = (x, 1)
    · have h11 : (x, 1) ∈ L := by rw [← c1]; exact s00
      have e1 : T.2.2.1.1 (2 * x + 1) = gl (fun x => x) (sc L (x, 1)) := nxt _ h11
      rw [if_pos c1, if_pos (by rw [e0, c1]; rfl), e1]
      exact rg _ (lt2 _ (hsF _ (sc_in h11 nL)))
    · rw [if_neg c1, if_neg (fun h9 => c1 (ginj _ _ (hsF _ s00) hx1 (by rw [← e0, h9]; rfl))), e0]
      exact rg _ (lt2 _ (hsF _ s00))
  · have n0 : ¬ gl (fun x => x) (sc L p) = 2 * x := fun h9 => c0 (ginj _ _ (hsF _ hsL) q1 (by rw [h9]; rfl))
    rw [if_neg c0, if_neg n0]
    by_cases c1 : sc L p = (x, 1)
    · have h11 : (x, 1) ∈ L := by rw [← c1]; exact hsL
      have e1 : T.2.2.1.1 (2 * x + 1) = gl (fun x => x) (sc L (x, 1)) := nxt _ h11
      have s11 := sc_in h11 nL
      rw [if_pos c1, c1, if_pos (show gl (fun x => x) (x, 1) = 2 * x + 1 from rfl)]
      by_cases c2 : sc L (x, 1) = (x, 0)
      · have h00 : (x, 0) ∈ L := by rw [← c2]; exact s11
        have e0 : T.2.2.1.1 (2 * x) = gl (fun x => x) (sc L (x, 0)) := nxt _ h00
        rw [if_pos c2, if_pos (by rw [e1, c2]; rfl), e0]
        exact rg _ (lt2 _ (hsF _ (sc_in h00 nL)))
      · rw [if_neg c2, if_neg (fun h9 => c2 (ginj _ _ (hsF _ s11) q1 (by rw [← e1, h9]; rfl))), e1]
        exact rg _ (lt2 _ (hsF _ s11))
    · have n1 : ¬ gl (fun x => x) (sc L p) = 2 * x + 1 := fun h9 => c1 (ginj _ _ (hsF _ hsL) hx1 (by rw [h9]; rfl))
      rw [if_neg c1, if_neg n1]
      exact rg _ (lt2 _ (hsF _ hsL))
theorem vn_rmT (hv : vn T.1 T.2.2.1) (hx : x < T.1) : vn (nt_rm T x).1 (nt_rm T x).2.2.1 := by
  obtain ⟨c, hc⟩ : ∃ c, T.1 = c + 1 := ⟨T.1 - 1, by omega⟩
  show vn (T.1 - 1) (np_rmS T.2.2.1 x (T.1 - 1))
  rw [hc] at hv ⊢
  exact vn_rm hv (by omega)
theorem pm1_rm (hT : pm1 T) (hx : x < T.1) : pm1 (nt_rm T x) := by
  intro k hk
  have hk : k < T.1 - 1 := hk
  show np_rmG T.2.2.2 x (T.1 - 1) k = 1 ∨ np_rmG T.2.2.2 x (T.1 - 1) k = -1
  unfold np_rmG
  split
  · exact hT k (by omega)
  · unfold su
    split
    · exact hT _ (by omega)
    · exact hT k (by omega)
/-- the visits of what is left, in the net before -/
def rnv2 (c x k : Nat) : Nat := if k / 2 = x then 2 * (c - 1) + k % 2 else k
theorem rnx_b (hx : x < T.1) {k : Nat} (hk : k < 2 * (T.1 - 1)) : rnx T.1 x (rnv2 T.1 x k) = k ∧ rnv2 T.1 x k < 2 * T.1 ∧ rnv2 T.1 x k / 2 ≠ x := by
  unfold rnx rnv2
  by_cases e : k / 2 = x
  · rw [if_pos e, if_pos (by omega)]
    omega
  · rw [if_neg e, if_neg (by omega)]
    omega
theorem rnx_f (hx : x < T.1) {v : Nat} (hv : v < 2 * T.1) (hne : v / 2 ≠ x) : rnv2 T.1 x (rnx T.1 x v) = v ∧ rnx T.1 x v < 2 * (T.1 - 1) := by
  unfold rnx rnv2
  by_cases e : v / 2 = T.1 - 1
  · rw [if_pos e, if_pos (by omega)]
    omega
  · rw [if_neg e, if_neg hne]
    omega
theorem skx_ne (hv : vn T.1 T.2.2.1) (hx : x < T.1) {v : Nat} (hvl : v < 2 * T.1) (hne : v / 2 ≠ x) : skx T.2.2.1.1 x (T.2.2.1.1 v) < 2 * T.1 ∧ skx T.2.2.1.1 x (T.2.2.1.1 v) / 2 ≠ x := by
  obtain ⟨h1, h2, h3, h4⟩ := hv v hvl
  have a0 := hv (2 * x) (by omega)
  have a1 := hv (2 * x + 1) (by omega)
  have i0 : ¬ T.2.2.1.1 v = T.2.2.1.1 (2 * x) := fun e => by have := vn_inj hv hvl (by omega) e; omega
  have i1 : ¬ T.2.2.1.1 v = T.2.2.1.1 (2 * x + 1) := fun e => by have := vn_inj hv hvl (by omega) e; omega
  have i2 : ¬ T.2.2.1.1 (2 * x) = T.2.2.1.1 (2 * x + 1) := fun e => by have := vn_inj hv (by omega) (by omega) e; omega
  unfold skx
  by_cases e0 : T.2.2.1.1 v = 2 * x
  · rw [if_pos e0]
    rw [e0] at i0 i1
    by_cases e1 : T.2.2.1.1 (2 * x) = 2 * x + 1
    · rw [if_pos e1]
      rw [e1] at i2
      exact ⟨a1.1, by omega⟩
    · rw [if_neg e1]
      exact ⟨a0.1, by omega⟩
  · rw [if_neg e0]
    by_cases e1 : T.2.2.1.1 v = 2 * x + 1
    · rw [if_pos e1]
      rw [e1] at i0 i1
      by_cases e2 : T.2.2.1.1 (2 * x + 1) = 2 * x
      · rw [if_pos e2]
        rw [e2] at i2
        exact ⟨a0.1, by omega⟩
      · rw [if_neg e2]
        exact ⟨a1.1, by omega⟩
    · rw [if_neg e1]
      exact ⟨h1, by omega⟩
/-- a net that shows what is left, and the crossing apart, is plane: what is left is plane -/
theorem pl_rm (hv : vn T.1 T.2.2.1) (hc : T.1 ≤ 12) (hx : x < T.1) {S2 : ow_NP} (hv2 : vn T.1 S2) (h2 : ∀ v, v < 2 * T.1 → v / 2 ≠ x → S2.1 v = skx T.2.2.1.1 x (T.2.2.1.1 v)) (hp : pn_pl T.1 S2 (stG T.2.2.2)) : nt_plane (nt_rm T x) = true := by
  have hc1 : (nt_rm T x).1 ≤ 12 := by show T.1 - 1 ≤ 12; omega
  rw [plane_iff (vn_rmT hv hx) hc1]
  refine sub_pl (ψ := rnv2 T.1 x) hv2 stG_fl (vn_rmT hv hx) (fun k hk => ?_) (fun u v hu hv9 e => ?_) hp
  · have hk : k < 2 * (T.1 - 1) := hk
    obtain ⟨b1, b2, b3⟩ := rnx_b hx hk
    obtain ⟨s1, s2⟩ := skx_ne hv hx b2 b3
    refine ⟨b2, ?_, ?_, ?_⟩
    · rw [h2 _ b2 b3]
      have := rm_next hv hc hx b2 b3
      rw [b1] at this
      rw [this, (rnx_f hx s1 s2).1]
    · unfold rnv2
      rw [mt_h2]
      by_cases e : k / 2 = x
      · rw [if_pos e, if_pos e]
        unfold mt
        split <;> split <;> omega
      · rw [if_neg e, if_neg e]
    · have hg : (nt_rm T x).2.2.2 (k / 2) = T.2.2.2 (rnv2 T.1 x k / 2) := by
        show np_rmG T.2.2.2 x (T.1 - 1) (k / 2) = _
        unfold np_rmG rnv2
        by_cases e : k / 2 = x
        · rw [if_pos e]
          by_cases ex : x = T.1 - 1
          · omega
          · rw [if_neg ex, show (2 * (T.1 - 1) + k % 2) / 2 = T.1 - 1 by omega]
            exact if_pos e
        · rw [if_neg e]
          by_cases ex : x = T.1 - 1
          · rw [if_pos ex]
          · rw [if_neg ex]
            exact if_neg e
      unfold stG
      rw [hg]
      have : rnv2 T.1 x k % 2 = k % 2 := by
        unfold rnv2
        split <;> omega
      rw [this]
  · have h1 := (rnx_b hx hu).1
    have h3 := (rnx_b hx hv9).1
    rw [← h1, e, h3]
end PRM
