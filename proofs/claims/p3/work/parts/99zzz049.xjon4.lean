section
/-! 99zzzzzzzzzzzv.xjon4 -/
/-! the reference's weights are binomials -/
def binN : Nat → Nat → Nat
  | _, 0 => 1
  | 0, _ + 1 => 0
  | n + 1, k + 1 => binN n k + binN n (k + 1)
theorem jW_tab : ∀ m : Fin 23, ∀ t : Fin 23, t.val ≤ m.val → jW (m.val + 1) t.val = if m.val % 2 = 0 then Int64.ofNat (binN m.val t.val) else - Int64.ofNat (binN m.val t.val) := by decide +kernel
theorem jW_bn {m t : Nat} (hm : m < 23) (ht : t ≤ m) : jW (m + 1) t = if m % 2 = 0 then Int64.ofNat (binN m t) else - Int64.ofNat (binN m t) := jW_tab ⟨m, hm⟩ ⟨t, by omega⟩ ht
end
section
/-! 99zzzzzzzzzzzw.xjon5 -/
/-! the sums of both sides -/
theorem smI_c {f g : Nat → Int32} : ∀ n, (∀ i, i < n → f i = g i) → smI f n = smI g n
  | 0, _ => rfl
  | n + 1, h => by
    show smI f n + f n = smI g n + g n
    rw [smI_c n (fun i hi => h i (by omega)), h n (by omega)]
theorem smI_z {f : Nat → Int32} : ∀ n, (∀ i, i < n → f i = 0) → smI f n = 0
  | 0, _ => rfl
  | n + 1, h => by
    show smI f n + f n = 0
    rw [smI_z n (fun i hi => h i (by omega)), h n (by omega), Int32.add_zero]
theorem smI_ad {f g : Nat → Int32} : ∀ n, smI (fun i => f i + g i) n = smI f n + smI g n
  | 0 => (Int32.add_zero _).symm
  | n + 1 => by
    show smI (fun i => f i + g i) n + (f n + g n) = (smI f n + f n) + (smI g n + g n)
    rw [smI_ad n, Int32.add_assoc, Int32.add_assoc, ← Int32.add_assoc (smI g n), Int32.add_comm (smI g n) (f n), Int32.add_assoc]
theorem smI_ng {f : Nat → Int32} : ∀ n, smI (fun i => - f i) n = - smI f n
  | 0 => Int32.neg_zero.symm
  | n + 1 => by
    show smI (fun i => - f i) n + - f n = - (smI f n + f n)
    rw [smI_ng n, Int32.neg_add, Int32.sub_eq_add_neg]
theorem smI_sw {F : Nat → Nat → Int32} {m : Nat} : ∀ n, smI (fun i => smI (F i) m) n = smI (fun j => smI (fun i => F i j) n) m
  | 0 => (smI_z m (fun i _ => rfl)).symm
  | n + 1 => by
    show smI (fun i => smI (F i) m) n + smI (F n) m = smI (fun j => smI (fun i => F i j) n + F n j) m
    rw [smI_sw n, smI_ad]
theorem smI_fs {f : Nat → Int32} : ∀ n, smI f (n + 1) = f 0 + smI (fun i => f (i + 1)) n
  | 0 => by
    show (0 : Int32) + f 0 = f 0 + 0
    rw [Int32.zero_add, Int32.add_zero]
  | n + 1 => by
    show smI f (n + 1) + f (n + 1) = f 0 + (smI (fun i => f (i + 1)) n + f (n + 1))
    rw [smI_fs n, Int32.add_assoc]
theorem smI_rv {f : Nat → Int32} : ∀ c, smI (fun i => f (c - i)) (c + 1) = smI f (c + 1)
  | 0 => rfl
  | c + 1 => by
    rw [smI_fs]
    show f (c + 1) + smI (fun i => f (c + 1 - (i + 1))) (c + 1) = smI f (c + 1) + f (c + 1)
    rw [smI_c (g := fun i => f (c - i)) (c + 1) (fun i hi => by rw [show c + 1 - (i + 1) = c - i by omega]), smI_rv c, Int32.add_comm]
theorem smI_1 {f : Nat → Int32} {a : Nat} : ∀ n, (∀ i, i < n → i ≠ a → f i = 0) → a < n → smI f n = f a
  | 0, _, h => absurd h (Nat.not_lt_zero _)
  | n + 1, h, ha => by
    show smI f n + f n = f a
    by_cases e : a = n
    · rw [e, smI_z n (fun i hi => h i (by omega) (by omega)), Int32.zero_add]
    · rw [smI_1 n (fun i hi => h i (by omega)) (by omega), h n (by omega) (fun h9 => e h9.symm), Int32.add_zero]
theorem smJ_I {f : Nat → Int64} : ∀ n, (smJ f n).toInt32 = smI (fun i => (f i).toInt32) n
  | 0 => rfl
  | n + 1 => by
    show (smJ f n + f n).toInt32 = smI (fun i => (f i).toInt32) n + (f n).toInt32
    rw [Int64.toInt32_add, smJ_I n]
/-- what the states with o ones and m + 1 loops give at the power x, by the t-th binomial -/
def jE (c : Nat) (w x : Int) (N : Nat → Nat) (o m t : Nat) : Int32 := if (c : Int) - 2 * o + 2 * m - 4 * t - 3 * w = x then (if m % 2 = 0 then nI (N (24 * o + (m + 1))) * nI (binN m t) else -(nI (N (24 * o + (m + 1))) * nI (binN m t))) else 0
theorem jFt_int {c o m : Nat} {w : Int} {x : Int32} (hc : c ≤ 12) (ho : o ≤ c) (hm : m < 23) (h1 : -12 ≤ w) (h2 : w ≤ 12) : jFt c (x.toInt64 + ((3 * iI w).toInt64)) o m = Int64.ofInt ((c : Int) - 2 * o + 2 * m - x.toInt - 3 * w) := by
  have e1 : x.toInt64 = Int64.ofInt x.toInt := by
    have := Int32.toInt64_ofInt (n := x.toInt) (Int32.minValue_le_toInt x) (Int32.toInt_le x)
    rw [Int32.ofInt_toInt] at this
    exact this
  have e2 : (3 * iI w).toInt64 = Int64.ofInt (3 * w) := by
    rw [show (3 : Int32) * iI w = iI (3 * w) from iI_mul 3 w]
    exact Int32.toInt64_ofInt (by show (-2147483648 : Int) ≤ _; omega) (by show _ ≤ (2147483647 : Int); omega)
  have e3 : ((nI c - (2 * nI o)) + (2 * (nI (m + 1) - 1))).toInt64 = Int64.ofInt ((c : Int) - 2 * o + 2 * m) := by
    rw [show nI (m + 1) - 1 = nI m from pk_sub (a := m + 1) (b := 1) (by omega), nI_iI c, nI_iI o, nI_iI m]
    show ((iI c - (iI 2 * iI o)) + (iI 2 * iI m)).toInt64 = _
    rw [iI_mul, iI_mul, iI_sub, iI_add]
    exact Int32.toInt64_ofInt (by show (-2147483648 : Int) ≤ _; omega) (by show _ ≤ (2147483647 : Int); omega)
  unfold jFt
  rw [e1, e2, e3, ← Int64.ofInt_add, ← Int64.ofInt_sub]
  congr 1
  omega
theorem q4_m : ∀ a : Fin 93, (lg_cmp (lN a.val - lN a.val / 4 * 4) 0 = 0) ↔ a.val % 4 = 0 := by decide +kernel
theorem ev_23 : ∀ m : Fin 23, ((nI m.val &&& 1) = 0) ↔ m.val % 2 = 0 := by decide +kernel
theorem jTm_E {c o m : Nat} {w : Int} {x : Int32} {R : Nat → Int32} {C : Nat → Nat → Int32} {N : Nat → Nat} (hc : c ≤ 12) (ho : o ≤ c) (hm : m < 23) (h1 : -12 ≤ w) (h2 : w ≤ 12) (hR : R (24 * o + (m + 1)) = nI (N (24 * o + (m + 1)))) (hC : ∀ i, i ≤ m → C m i = nI (binN m i)) : jTm c (x.toInt64 + ((3 * iI w).toInt64)) R C o m = smI (jE c w x.toInt N o m) (m + 1) := by
  have hx1 := Int32.minValue_le_toInt x
  have hx2 := Int32.toInt_le x
  have hx1 : (-2147483648 : Int) ≤ x.toInt := hx1
  have hx2 : x.toInt ≤ (2147483647 : Int) := hx2
  have m1 : nI (m + 1) - 1 = nI m := pk_sub (a := m + 1) (b := 1) (by omega)
  have e4 : (4 * (nI (m + 1) - 1)).toInt64 = lN (4 * m) := by
    rw [m1, show (4 : Int32) * nI m = nI (4 * m) from pk_mul 4 m, nI_l (by omega)]
  unfold jTm
  rw [jFt_int hc ho hm h1 h2, e4, m1]
  obtain ⟨fi, hfi⟩ : ∃ fi : Int, fi = (c : Int) - 2 * o + 2 * m - x.toInt - 3 * w := ⟨_, rfl⟩
  rw [← hfi]
  have lt0 : fi < 0 → lg_cmp (Int64.ofInt fi) 0 < 0 := fun h => by
    refine (lg_cmp_lt _ _).mpr ?_
    rw [Int64.lt_iff_toInt_lt, Int64.toInt_ofInt_of_le (by omega) (by omega)]
    exact h
  by_cases hn : fi < 0
  · rw [if_neg (fun h => h.2.1 (lt0 hn))]
    refine (smI_z _ (fun t ht => ?_)).symm
    unfold jE
    exact if_neg (by omega)
  · obtain ⟨a, ha⟩ : ∃ a : Nat, fi = (a : Int) := ⟨fi.toNat, by omega⟩
    have eL : Int64.ofInt fi = lN a := by
      rw [ha]
      exact Int64.ofInt_eq_ofNat
    rw [eL]
    have hal : a < 2 ^ 63 := by omega
    by_cases hb : 4 * m < a
    · rw [if_neg (fun h => h.2.2 ((lg_cmp_gt _ _).mpr ((pk_lLT (by omega) hal).mpr hb)))]
      refine (smI_z _ (fun t ht => ?_)).symm
      unfold jE
      exact if_neg (by omega)
    · by_cases h4 : a % 4 = 0
      · have g1 : ¬ lg_cmp (lN a) 0 < 0 := fun h => absurd ((pk_lLT (b := 0) hal (by decide)).mp ((lg_cmp_lt _ _).mp h)) (Nat.not_lt_zero _)
        have g2 : ¬ 0 < lg_cmp (lN a) (lN (4 * m)) := fun h => hb ((pk_lLT (by omega) hal).mp ((lg_cmp_gt _ _).mp h))
        rw [if_pos ⟨(q4_m ⟨a, by omega⟩).mpr h4, g1, g2⟩, show (lN a / 4).toInt32 = nI (a / 4) from q4_c ⟨a, by omega⟩, nI_clamp (by omega), hR, hC _ (by omega)]
        rw [smI_1 (a := a / 4) (m + 1) (fun t ht hne => ?_) (by omega)]
        · have hE : jE c w x.toInt N o m (a / 4) = if m % 2 = 0 then nI (N (24 * o + (m + 1))) * nI (binN m (a / 4)) else -(nI (N (24 * o + (m + 1))) * nI (binN m (a / 4))) := by
            unfold jE
            exact if_pos (by omega)
          rw [hE]
          have ep : ((nI m &&& 1) = 0) ↔ m % 2 = 0 := ev_23 ⟨m, hm⟩
          by_cases e : m % 2 = 0
          · rw [if_pos e, if_pos (ep.mpr e)]
          · rw [if_neg e, if_neg (fun h => e (ep.mp h))]
        · unfold jE
          exact if_neg (by omega)
      · rw [if_neg (fun h => h4 ((q4_m ⟨a, by omega⟩).mp h.1))]
        refine (smI_z _ (fun t ht => ?_)).symm
        unfold jE
        exact if_neg (by omega)
/-- the class's sum -/
theorem jAt_E {y : ow_MS} {c : Nat} {w : Int} {x : Int32} {N : Nat → Nat} (hc : c ≤ 12) (h1 : -12 ≤ w) (h2 : w ≤ 12) (hw : y.1 24009 = iI w) (hR : ∀ k, k < 312 → y.2.1 24006 k = nI (N k)) (hC : ∀ m i, m < 23 → i ≤ m → y.2.1 (39001 + m) i = nI (binN m i)) : jAt y c x = smI (fun o => smI (fun m => smI (jE c w x.toInt N o m) (m + 1)) 23) (c + 1) := by
  unfold jAt
  rw [hw]
  refine smI_c _ (fun o ho => smI_c _ (fun m hm => ?_))
  exact jTm_E hc (by omega) hm h1 h2 (hR _ (by omega)) (fun i hi => hC m i hm hi)
/-- the reference's sum -/
theorem jX_E {c : Nat} {w : Int} {x : Int} {N : Nat → Nat} {T : Nat → Int64} {k : Nat} (hc : c ≤ 12) (h1 : -12 ≤ w) (h2 : w ≤ 12) (hk : (k : Int) = x + 100) (hT : ∀ o l, o ≤ c → l < 24 → T (24 * (c - o) + l) = Int64.ofNat (N (24 * o + l))) : (jX c w T k 23).toInt32 = if (iI w &&& 1) = 0 then smI (fun o => smI (fun m => smI (jE c w x N o m) (m + 1)) 23) (c + 1) else - smI (fun o => smI (fun m => smI (jE c w x N o m) (m + 1)) 23) (c + 1) := by
  have e1 : ∀ m t ze, m < 23 → t ≤ m → ze ≤ c → (jQ c w T k (m + 1) t ze).toInt32 = if (iI w &&& 1) = 0 then jE c w x N (c - ze) m t else - jE c w x N (c - ze) m t := by
    intro m t ze hm ht hz
    have eT := hT (c - ze) (m + 1) (by omega) (by omega)
    rw [show c - (c - ze) = ze by omega] at eT
    have eP : jP c w (m + 1) t ze = k ↔ (c : Int) - 2 * (c - ze : Nat) + 2 * m - 4 * t - 3 * w = x := by
      unfold jP
      omega
    have eV : (T (24 * ze + (m + 1)) * jW (m + 1) t).toInt32 = if m % 2 = 0 then nI (N (24 * (c - ze) + (m + 1))) * nI (binN m t) else -(nI (N (24 * (c - ze) + (m + 1))) * nI (binN m t)) := by
      rw [eT, jW_bn hm ht, Int64.toInt32_mul, Int64.toInt32_ofNat']
      by_cases e : m % 2 = 0
      · rw [if_pos e, if_pos e, Int64.toInt32_ofNat']
        rfl
      · rw [if_neg e, if_neg e, Int64.toInt32_neg, Int64.toInt32_ofNat', Int32.mul_neg]
        rfl
    unfold jQ jE
    by_cases e : jP c w (m + 1) t ze = k
    · rw [if_pos e, if_pos (eP.mp e), ← eV]
      by_cases ew : (iI w &&& 1) = 0
      · rw [if_pos ew, if_pos ew]
      · rw [if_neg ew, if_neg ew, Int64.toInt32_sub, Int64.toInt32_ofNat]
        exact Int32.zero_sub _
    · rw [if_neg e, if_neg (fun h => e (eP.mpr h)), Int32.neg_zero, ite_self]
      rfl
  have e2 : (jX c w T k 23).toInt32 = smI (fun m => smI (fun t => smI (fun ze => (jQ c w T k (m + 1) t ze).toInt32) (c + 1)) (m + 1)) 23 := by
    unfold jX
    rw [smJ_I]
    refine smI_c _ (fun m hm => ?_)
    unfold jY
    rw [smJ_I]
    refine smI_c _ (fun t ht => ?_)
    unfold jZ
    rw [smJ_I]
  have e3 : smI (fun o => smI (fun m => smI (jE c w x N o m) (m + 1)) 23) (c + 1) = smI (fun m => smI (fun t => smI (fun ze => jE c w x N (c - ze) m t) (c + 1)) (m + 1)) 23 := by
    rw [smI_sw]
    refine smI_c _ (fun m hm => ?_)
    rw [smI_sw]
    exact smI_c _ (fun t ht => (smI_rv (f := fun o => jE c w x N o m t) c).symm)
  rw [e2, e3]
  by_cases ew : (iI w &&& 1) = 0
  · rw [if_pos ew]
    refine smI_c _ (fun m hm => smI_c _ (fun t ht => smI_c _ (fun ze hz => ?_)))
    rw [e1 m t ze hm (by omega) (by omega), if_pos ew]
  · rw [if_neg ew, ← smI_ng]
    refine smI_c _ (fun m hm => ?_)
    rw [← smI_ng]
    refine smI_c _ (fun t ht => ?_)
    rw [← smI_ng]
    refine smI_c _ (fun ze hz => ?_)
    rw [e1 m t ze hm (by omega) (by omega), if_neg ew]
/-- beyond a hundred there is nothing -/
theorem jE_far {c : Nat} {w x : Int} {N : Nat → Nat} (hc : c ≤ 12) (h1 : -12 ≤ w) (h2 : w ≤ 12) (hx : x < -100 ∨ 100 < x) : smI (fun o => smI (fun m => smI (jE c w x N o m) (m + 1)) 23) (c + 1) = 0 := by
  refine smI_z _ (fun o ho => smI_z _ (fun m hm => smI_z _ (fun t ht => ?_)))
  unfold jE
  exact if_neg (by omega)
end
