/-! the reference: the numbers of J, exactly -/
def smJ (f : Nat → Int64) : Nat → Int64
  | 0 => 0
  | n + 1 => smJ f n + f n
def jW (l : Nat) : Nat → Int64
  | 0 => if ((nI l - 1) &&& 1) = 0 then 1 else -1
  | t + 1 => (jW l t * ((nI l - 1 - nI t).toInt64)) / ((nI t + 1).toInt64)
def jP (c : Nat) (w : Int) (l t ze : Nat) : Nat := (2 * ((l : Int) - 1) - 4 * t + ze - (c - ze) - 3 * w + 100).toNat
def jQ (c : Nat) (w : Int) (T : Nat → Int64) (k l t ze : Nat) : Int64 := if jP c w l t ze = k then (if (iI w &&& 1) = 0 then T (24 * ze + l) * jW l t else 0 - T (24 * ze + l) * jW l t) else 0
def jZ (c : Nat) (w : Int) (T : Nat → Int64) (k l t n : Nat) : Int64 := smJ (jQ c w T k l t) n
def jY (c : Nat) (w : Int) (T : Nat → Int64) (k l n : Nat) : Int64 := smJ (fun t => jZ c w T k l t (c + 1)) n
def jX (c : Nat) (w : Int) (T : Nat → Int64) (k n : Nat) : Int64 := smJ (fun l => jY c w T k (l + 1) (l + 1)) n
/-- where a state is counted -/
def jI (A : rn_L) (sg : Nat → Bool) (c s : Nat) : Nat := 24 * (c - pc s) + rtsN (lpA A sg (nI s) A.flatten.length) A.flatten.length + eC A
def jN (A : rn_L) (sg : Nat → Bool) (c n k : Nat) : Int64 := Int64.ofNat (((List.range n).map (jI A sg c)).count k)
theorem jN_s {A : rn_L} {sg : Nat → Bool} {c n k : Nat} : jN A sg c (n + 1) k = if k = jI A sg c n then jN A sg c n k + 1 else jN A sg c n k := by
  unfold jN
  rw [List.range_succ, List.map_append, List.count_append]
  by_cases e : k = jI A sg c n
  · rw [if_pos e]
    have : List.count k [jI A sg c n] = 1 := by rw [e]; exact List.count_singleton_self
    show Int64.ofNat (_ + List.count k [jI A sg c n]) = _
    rw [this, Int64.ofNat_add]
    rfl
  · rw [if_neg e]
    have : List.count k [jI A sg c n] = 0 := List.count_eq_zero.mpr (fun h => e (List.mem_singleton.mp h))
    show Int64.ofNat (_ + List.count k [jI A sg c n]) = _
    rw [this, Nat.add_zero]
theorem jn_ip {l t ze c : Nat} {w : Int} (hl : l ≤ 23) (hl1 : 1 ≤ l) (ht : t < l) (hz : ze ≤ c) (hc : c ≤ 12) (h1 : -12 ≤ w) (h2 : w ≤ 12) : jP c w l t ze < 201 ∧ ((((2 * (nI l - 1)) - (4 * nI t)) + nI ze) - (nI c - nI ze) - (3 * iI w)) + 100 = nI (jP c w l t ze) := by
  unfold jP
  refine ⟨by omega, ?_⟩
  rw [nI_iI l, nI_iI t, nI_iI ze, nI_iI c]
  show (((iI 2 * (iI l - iI 1)) - (iI 4 * iI t)) + iI ze) - (iI c - iI ze) - (iI 3 * iI w) + iI 100 = _
  rw [iI_sub, iI_mul, iI_mul, iI_sub, iI_add, iI_sub, iI_sub, iI_mul, iI_sub, iI_add]
  exact iI_nI (by omega)
section XJN
variable {z : ow_MS}
theorem xm_makeJones {n : Nat} {A : rn_L} {sg : Nat → Bool} (hn : mw_net n) (hA : oNet z n A sg) {c : Nat} (hok : okF A.flatten c) (hc : c ≤ 12) : Te (fun K => qe_X13_makeJones K n z) (fun z1 => fr (fun g => g = 47 ∨ g = 48 ∨ g = 51) z z1 ∧ ∀ k, k < 201 → z1.2.2 48 k = jX c (wrN A sg A.flatten.length) (jN A sg c (2 ^ c)) k 23) := by
  have hV := okF_len hok
  have hC := hA.2.2.2
  have hmn := net_mod hn
  have hov := ovs_le hok
  have hw := wrN_le (A := A) (sg := sg) A.flatten.length
  have hne := neC_eC A
  generalize hwn : wrN A sg A.flatten.length = w at hw
  have hw1 : -12 ≤ w := by omega
  have hw2 : w ≤ 12 := by omega
  obtain ⟨T, hT⟩ : ∃ T, T = jN A sg c (2 ^ c) := ⟨_, rfl⟩
  let Q : ow_MS → Prop := fun z1 => fr (fun g => g = 47 ∨ g = 48 ∨ g = 51) z z1 ∧ ∀ k, k < 201 → z1.2.2 48 k = jX c w T k 23
  have oA : ∀ {y : ow_MS}, fr (fun g => g = 47 ∨ g = 48 ∨ g = 51) z y → oNet y n A sg := fun hf => oNet_fr hf (fun g hg => by omega) hA
  have c4 : ∀ (d l : Nat) (y : ow_MS), l + d = 24 → 1 ≤ l → fr (fun g => g = 47 ∨ g = 48 ∨ g = 51) z y → (∀ k, k < 312 → y.2.2 51 k = T k) → (∀ k, k < 201 → y.2.2 48 k = jX c w T k (l - 1)) → Tt (fun K i => q_X13_makeJones K i 4 (nI c) (nI (eC A)) (iI w) (nI l) 0 0 0 0 0 0 0 n 0 0 0 y) Q := by
    intro d
    induction d with
    | zero =>
      intro l y hl hl1 hf h51 h48
      have e : l = 24 := by omega
      rw [e] at h48
      refine u_X13_makeJones_4 ?_; unfold qm_X13_makeJones_4
      exact w_leT (a := 24) (by omega) (by omega) (w_some ⟨hf, h48⟩)
    | succ d ih =>
      intro l y hl hl1 hf h51 h48
      obtain ⟨l1, rfl⟩ : ∃ l1, l = l1 + 1 := ⟨l - 1, by omega⟩
      rw [Nat.add_sub_cancel] at h48
      obtain ⟨l, hll⟩ : ∃ l, l = l1 + 1 := ⟨_, rfl⟩
      rw [← hll] at hl hl1 ⊢
      have c6 : ∀ (d2 t : Nat) (w6 w8 : Int64) (y : ow_MS), t + d2 = l → w8 = jW l t → fr (fun g => g = 47 ∨ g = 48 ∨ g = 51) z y → (∀ k, k < 312 → y.2.2 51 k = T k) → (∀ k, k < 201 → y.2.2 48 k = jX c w T k l1 + jY c w T k l t) → Tt (fun K i => q_X13_makeJones K i 6 (nI c) (nI (eC A)) (iI w) (nI l) (nI t) 0 0 0 w6 w8 0 n 0 0 0 y) Q := by
        intro d2
        induction d2 with
        | zero =>
          intro t w6 w8 y ht hw8 hf h51 h48
          have e : t = l1 + 1 := by omega
          refine u_X13_makeJones_6 ?_; unfold qm_X13_makeJones_6
          rw [nI_1]
          refine w_leT (by omega) (by omega) (ih (l + 1) y (by omega) (by omega) hf h51 (fun k hk => ?_))
          rw [h48 k hk, e, Nat.add_sub_cancel, hll]
          rfl
        | succ d2 ih2 =>
          intro t w6 w8 y ht hw8 hf h51 h48
          have c7 : ∀ (d3 ze : Nat) (y : ow_MS), ze + d3 = c + 1 → fr (fun g => g = 47 ∨ g = 48 ∨ g = 51) z y → (∀ k, k < 312 → y.2.2 51 k = T k) → (∀ k, k < 201 → y.2.2 48 k = jX c w T k l1 + jY c w T k l t + jZ c w T k l t ze) → Tt (fun K i => q_X13_makeJones K i 7 (nI c) (nI (eC A)) (iI w) (nI l) (nI t) ((2 * (nI l - 1)) - (4 * nI t)) (nI ze) 0 w6 w8 0 n 0 0 0 y) Q := by
            intro d3
            induction d3 with
            | zero =>
              intro ze y hz hf h51 h48
              have hnz : (nI (t + 1)).toInt64 ≠ 0 := by
                rw [nI_l (by omega)]
                exact fun e => by
                  have := (pk_lEQ (a := t + 1) (b := 0) (by omega) (by omega)).mp e
                  omega
              refine u_X13_makeJones_7 ?_; unfold qm_X13_makeJones_7
              rw [show nI t + 1 = nI (t + 1) from nI_1 _]
              refine w_ltT (by omega) (by omega) (w_nzJ hnz (ih2 (t + 1) _ _ y (by omega) ?_ hf h51 (fun k hk => ?_)))
              · rw [hw8, ← nI_1 t]
                rfl
              · have e : ze = c + 1 := by omega
                rw [h48 k hk, e, Int64.add_assoc]
                rfl
            | succ d3 ih3 =>
              intro ze y hz hf h51 h48
              obtain ⟨hk, ek⟩ := jn_ip (l := l) (t := t) (ze := ze) (c := c) (w := w) (by omega) hl1 (by omega) (by omega) hc hw1 hw2
              obtain ⟨k, hkk⟩ : ∃ k, k = jP c w l t ze := ⟨_, rfl⟩
              rw [← hkk] at hk ek
              have c9 : ∀ (x13 : Int32) (w14 : Int64) (y : ow_MS), fr (fun g => g = 47 ∨ g = 48 ∨ g = 51) z y → (∀ k, k < 312 → y.2.2 51 k = T k) → (∀ k, k < 201 → y.2.2 48 k = jX c w T k l1 + jY c w T k l t + (jZ c w T k l t ze + jQ c w T k l t ze)) → Tt (fun K i => q_X13_makeJones K i 9 (nI c) (nI (eC A)) (iI w) (nI l) (nI t) ((2 * (nI l - 1)) - (4 * nI t)) (nI ze) x13 w6 w8 w14 n 0 0 0 y) Q := by
                intro x13 w14 y hf h51 h48
                refine u_X13_makeJones_9 ?_; unfold qm_X13_makeJones_9
                rw [show nI ze + 1 = nI (ze + 1) from nI_1 _]
                exact ih3 (ze + 1) y (by omega) hf h51 h48
              have c8 : ∀ (x13 : Int32) (w14 y0 : Int64), (if (iI w &&& 1) = 0 then T (24 * ze + l) * jW l t else 0 - T (24 * ze + l) * jW l t) = y0 → Tt (fun K i => q_X13_makeJones K i 8 (nI c) (nI (eC A)) (iI w) (nI l) (nI t) ((2 * (nI l - 1)) - (4 * nI t)) (nI ze) x13 w6 w8 w14 n (nI k) y0 (y.2.2 48 k) y) Q := by
                intro x13 w14 y0 hy0
                refine u_X13_makeJones_8 ?_; unfold qm_X13_makeJones_8
                refine w_wrJ ml48 rfl hk (c9 _ _ _ (fr_J2 hf (Or.inr (Or.inl rfl))) (fun k' hk' => h51 k' hk') (fun k' hk' => ?_))
                by_cases e : k' = k
                · rw [e, usJ_at, h48 k hk, Int64.add_assoc]
                  unfold jQ
                  rw [if_pos hkk.symm, hy0]
                · rw [usJ_ne e, h48 k' hk']
                  unfold jQ
                  rw [if_neg (fun h9 => e (by rw [hkk, h9])), Int64.add_zero]
              refine u_X13_makeJones_7 ?_; unfold qm_X13_makeJones_7
              rw [ek]
              refine w_ltF (by omega) (by omega) (w_rdJ (i := 24 * ze + l) ml51 (by rw [show (24 : Int32) * nI ze = nI (24 * ze) from pk_mul 24 ze, nI_add]) (by omega) (h51 _ (by omega)) (w_if (fun h0 => c9 _ _ _ hf h51 (fun k' hk' => ?_)) (fun _ => w_rdJ ml48 rfl hk rfl (w_if (fun hw0 => c8 _ _ _ (by rw [if_pos hw0, hw8])) (fun hw0 => c8 _ _ _ (by rw [if_neg hw0, hw8]))))))
              have e0 : T (24 * ze + l) = 0 := (lg_cmp_eq _ _).mp h0
              rw [h48 k' hk']
              unfold jQ
              rw [e0, Int64.zero_mul, Int64.sub_self, ite_self, ite_self, Int64.add_zero]
          refine u_X13_makeJones_6 ?_; unfold qm_X13_makeJones_6
          refine w_leF (by omega) (by omega) (c7 (c + 1) 0 y (by omega) hf h51 (fun k hk => ?_))
          rw [h48 k hk]
          exact (Int64.add_zero _).symm
      have c5 : ∀ (y0 : Int64), y0 = jW l 0 → Tt (fun K i => q_X13_makeJones K i 5 (nI c) (nI (eC A)) (iI w) (nI l) 0 0 0 0 0 0 0 n 0 y0 0 y) Q := by
        intro y0 hy0
        refine u_X13_makeJones_5 ?_; unfold qm_X13_makeJones_5
        refine c6 l 0 _ _ y (by omega) hy0 hf h51 (fun k hk => ?_)
        rw [h48 k hk]
        exact (Int64.add_zero _).symm
      refine u_X13_makeJones_4 ?_; unfold qm_X13_makeJones_4
      exact w_leF (a := 24) (by omega) (by omega) (w_if (fun h9 => c5 _ (if_pos h9).symm) (fun h9 => c5 _ (if_neg h9).symm))
  have c3 : ∀ (d k : Nat) (y : ow_MS), k + d = 201 → fr (fun g => g = 47 ∨ g = 48 ∨ g = 51) z y → (∀ k, k < 312 → y.2.2 51 k = T k) → (∀ i, i < k → y.2.2 48 i = 0) → Tt (fun K i => q_X13_makeJones K i 3 (nI c) (nI (eC A)) (nI k) 0 0 0 0 0 0 0 0 n 0 0 0 y) Q := by
    intro d
    induction d with
    | zero =>
      intro k y hk hf h51 h48
      refine u_X13_makeJones_3 ?_; unfold qm_X13_makeJones_3
      refine w_ltT (a := 200) (by omega) (by omega) (w_cs1 (tp_writhe2 hn (oA hf)) (fun a y1 e => ?_))
      cases e
      rw [hwn]
      exact c4 23 1 y (by omega) (by omega) hf h51 (fun i hi => h48 i (by omega))
    | succ d ih =>
      intro k y hk hf h51 h48
      refine u_X13_makeJones_3 ?_; unfold qm_X13_makeJones_3
      rw [nI_1]
      refine w_ltF (a := 200) (by omega) (by omega) (w_wrJ ml48 rfl (by omega) (ih (k + 1) _ (by omega) (fr_J2 hf (Or.inr (Or.inl rfl))) (fun i hi => h51 i hi) (fun i hi => ?_)))
      by_cases e : i = k
      · rw [e, usJ_at]
      · rw [usJ_ne e]
        exact h48 i (by omega)
  have h2c : 2 ^ c ≤ 4096 := two_mono (b := 12) hc
  have c2 : ∀ (d s : Nat) (y : ow_MS), s + d = 2 ^ c → fr (fun g => g = 47 ∨ g = 48 ∨ g = 51) z y → (∀ k, k < 312 → y.2.2 51 k = jN A sg c s k) → Tt (fun K i => q_X13_makeJones K i 2 (nI c) (nI (eC A)) (nI s) 0 0 0 0 0 0 0 0 n 0 0 0 y) Q := by
    intro d
    induction d with
    | zero =>
      intro s y hs hf h51
      have e : s = 2 ^ c := by omega
      rw [e, ← hT] at h51
      refine u_X13_makeJones_2 ?_; unfold qm_X13_makeJones_2
      rw [shl1 (by omega)]
      exact w_leT (by omega) (by omega) (c3 201 0 y (by omega) hf h51 (fun i hi => absurd hi (Nat.not_lt_zero _)))
    | succ d ih =>
      intro s y hs hf h51
      have hpc := pc_le (c := c) (k := s) (by omega)
      refine u_X13_makeJones_2 ?_; unfold qm_X13_makeJones_2
      rw [shl1 (by omega)]
      refine w_leF (by omega) (by omega) (w_cs0 (tp_loops (st := nI s) hn (oA hf)) (fun y1 ⟨u1, f1⟩ => ?_))
      have hf1 : fr (fun g => g = 47 ∨ g = 48 ∨ g = 51) z y1 := fr_tr hf (fr_mono (fun g hg => Or.inl hg) f1)
      have hlp := loops_le (sg := sg) (st := nI s) hok (by omega)
      refine w_cs1 (tp_countL (oA hf1).1.V (by omega) u1) (fun a y2 e => ?_)
      cases e
      obtain ⟨r, hr9⟩ : ∃ r, r = rtsN (lpA A sg (nI s) A.flatten.length) A.flatten.length := ⟨_, rfl⟩
      rw [← hr9] at hlp ⊢
      have ei : ((24 : Int32) * (nI c - ow_bc (nI s))) + nI r + nI (eC A) = nI (24 * (c - pc s) + r + eC A) := by
        rw [bc_pc (by omega), pk_sub hpc, show (24 : Int32) * nI (c - pc s) = nI (24 * (c - pc s)) from pk_mul 24 _, nI_add, nI_add]
      rw [ei, nI_1]
      have eI : jI A sg c s = 24 * (c - pc s) + r + eC A := by
        unfold jI
        rw [hr9]
      rw [← eI]
      have hI : jI A sg c s < 312 := by rw [eI]; omega
      have h51' : ∀ k, k < 312 → y1.2.2 51 k = jN A sg c s k := fun k hk => by
        rw [(f1 51 (by omega)).2.2]
        exact h51 k hk
      refine w_rdJ ml51 rfl (by omega) (h51' _ hI) (w_wrJ ml51 rfl (by omega) (ih (s + 1) _ (by omega) (fr_J2 hf1 (Or.inr (Or.inr rfl))) (fun k hk => ?_)))
      rw [jN_s]
      by_cases e : k = jI A sg c s
      · rw [if_pos e, e, usJ_at]
      · rw [if_neg e, usJ_ne e]
        exact h51' k hk
  have c1 : ∀ (d k : Nat) (y : ow_MS), k + d = 312 → fr (fun g => g = 47 ∨ g = 48 ∨ g = 51) z y → (∀ i, i < k → y.2.2 51 i = 0) → Tt (fun K i => q_X13_makeJones K i 1 (nI c) (nI (eC A)) (nI k) 0 0 0 0 0 0 0 0 n 0 0 0 y) Q := by
    intro d
    induction d with
    | zero =>
      intro k y hk hf h51
      refine u_X13_makeJones_1 ?_; unfold qm_X13_makeJones_1
      refine w_leT (a := 312) (by omega) (by omega) (c2 (2 ^ c) 0 y (by omega) hf (fun i hi => ?_))
      rw [h51 i (by omega)]
      rfl
    | succ d ih =>
      intro k y hk hf h51
      refine u_X13_makeJones_1 ?_; unfold qm_X13_makeJones_1
      rw [nI_1]
      refine w_leF (a := 312) (by omega) (by omega) (w_wrJ ml51 rfl (by omega) (ih (k + 1) _ (by omega) (fr_J2 hf (Or.inr (Or.inr rfl))) (fun i hi => ?_)))
      by_cases e : i = k
      · rw [e, usJ_at]
      · rw [usJ_ne e]
        exact h51 i (by omega)
  refine e_X13_makeJones ?_
  refine u_X13_makeJones_0 ?_; unfold qm_X13_makeJones_0
  refine w_rdF hA.1.V (w_nzI (by decide) (w_cs1 (tp_circles2 hn (by omega) (by omega) hA.1.1) (fun a y e => ?_)))
  cases e
  rw [hV, show nI (2 * c) / 2 = nI c from by rw [show nI (2 * c) / 2 = nI (2 * c / 2) from pk_div (d := 2) (by omega) (by omega) (by omega)]; congr 1; omega]
  have fin := c1 312 0 z (by omega) fr_rf (fun i hi => absurd hi (Nat.not_lt_zero _))
  refine w_mono fin (fun r hr => ⟨hr.1, fun k hk => ?_⟩)
  rw [hr.2 k hk, hT]
end XJN
