/-! summit: the reference comes to the summit -/
section XS2
variable {z : ow_MS} {m : N5}
/-- no conjugate has more deltas in front; none is shorter -/
def nrs (a : Gn m) (k : Int) : Prop := ∀ x, ¬ rsd k (cnj x a)
def nls (a : Gn m) (s : Int) : Prop := ∀ x, ¬ gle (cnj x a) (gD m (s - 1))
def cqS (a : Gn m) (k : Int) (t : Nat) (b : Gn m) : Prop := ∃ s : Nat → Gn m, gle (gD m k) (s 0) ∧ (∀ j, j < t → ∃ i, isM (gm (s j) (gi (gD m k))) (gD m 1) i ∧ s (j + 1) = cnj i (s j)) ∧ (∀ j, j ≤ t → ¬ rsd k (s j)) ∧ s t = b ∧ ∀ j, j ≤ t → ∃ x, s j = cnj x a
def dqS (a : Gn m) (S : Int) (t : Nat) (b : Gn m) : Prop := ∃ s : Nat → Gn m, gle (s 0) (gD m S) ∧ (∀ j, j < t → ∃ i, isM (gm (gi (s j)) (gD m S)) (gD m 1) (gm (gi i) (gD m 1)) ∧ s (j + 1) = gm i (gm (s j) (gi i))) ∧ (∀ j, j ≤ t → ¬ gle (s j) (gD m (S - 1))) ∧ s t = b ∧ ∀ j, j ≤ t → ∃ x, s j = cnj x a
theorem cq_0 {a b : Gn m} {k : Int} (h1 : gle (gD m k) b) (h2 : ¬ rsd k b) (h3 : ∃ x, b = cnj x a) : cqS a k 0 b := ⟨fun _ => b, h1, fun j hj => absurd hj (Nat.not_lt_zero _), fun _ _ => h2, rfl, fun _ _ => h3⟩
theorem cq_s {a b i : Gn m} {k : Int} {t : Nat} (h : cqS a k t b) (hi : isM (gm b (gi (gD m k))) (gD m 1) i) (h2 : ¬ rsd k (cnj i b)) : cqS a k (t + 1) (cnj i b) := by
  obtain ⟨s, s1, s2, s3, s4, s5⟩ := h
  have e0 : ∀ j, j ≤ t → (fun j => if j ≤ t then s j else cnj i b) j = s j := fun j hj => if_pos hj
  have e1 : (fun j => if j ≤ t then s j else cnj i b) (t + 1) = cnj i b := if_neg (by omega)
  refine ⟨fun j => if j ≤ t then s j else cnj i b, ?_, fun j hj => ?_, fun j hj => ?_, e1, fun j hj => ?_⟩
  · rw [e0 0 (Nat.zero_le _)]
    exact s1
  · rw [e0 j (by omega)]
    by_cases c : j = t
    · rw [c, e1, s4]
      exact ⟨i, hi, rfl⟩
    · rw [e0 (j + 1) (by omega)]
      exact s2 j (by omega)
  · by_cases c : j = t + 1
    · rw [c, e1]
      exact h2
    · rw [e0 j (by omega)]
      exact s3 j (by omega)
  · by_cases c : j = t + 1
    · obtain ⟨x, hx⟩ := s5 t (Nat.le_refl _)
      refine ⟨gm x i, ?_⟩
      rw [c, e1, cnj_m, ← hx, s4]
    · rw [e0 j (by omega)]
      exact s5 j (by omega)
theorem cnj_all {a b x : Gn m} (h : b = cnj x a) (y : Gn m) : cnj y a = cnj (gm (gi x) y) b := by
  rw [h, ← cnj_m, gi_cr]
theorem cq_end {a b : Gn m} {k : Int} (h : cqS a k (szD m) b) : nrs a k := by
  obtain ⟨s, s1, s2, s3, s4, s5⟩ := h
  obtain ⟨x0, e0⟩ := s5 0 (Nat.zero_le _)
  intro x hx
  rw [cnj_all e0 x] at hx
  exact idle_c s1 s2 s3 _ hx
theorem dq_0 {a b : Gn m} {S : Int} (h1 : gle b (gD m S)) (h2 : ¬ gle b (gD m (S - 1))) (h3 : ∃ x, b = cnj x a) : dqS a S 0 b := ⟨fun _ => b, h1, fun j hj => absurd hj (Nat.not_lt_zero _), fun _ _ => h2, rfl, fun _ _ => h3⟩
theorem dq_s {a b i : Gn m} {S : Int} {t : Nat} (h : dqS a S t b) (hi : isM (gm (gi b) (gD m S)) (gD m 1) (gm (gi i) (gD m 1))) (h2 : ¬ gle (gm i (gm b (gi i))) (gD m (S - 1))) : dqS a S (t + 1) (gm i (gm b (gi i))) := by
  obtain ⟨s, s1, s2, s3, s4, s5⟩ := h
  have e0 : ∀ j, j ≤ t → (fun j => if j ≤ t then s j else gm i (gm b (gi i))) j = s j := fun j hj => if_pos hj
  have e1 : (fun j => if j ≤ t then s j else gm i (gm b (gi i))) (t + 1) = gm i (gm b (gi i)) := if_neg (by omega)
  refine ⟨fun j => if j ≤ t then s j else gm i (gm b (gi i)), ?_, fun j hj => ?_, fun j hj => ?_, e1, fun j hj => ?_⟩
  · rw [e0 0 (Nat.zero_le _)]
    exact s1
  · rw [e0 j (by omega)]
    by_cases c : j = t
    · rw [c, e1, s4]
      exact ⟨i, hi, rfl⟩
    · rw [e0 (j + 1) (by omega)]
      exact s2 j (by omega)
  · by_cases c : j = t + 1
    · rw [c, e1]
      exact h2
    · rw [e0 j (by omega)]
      exact s3 j (by omega)
  · by_cases c : j = t + 1
    · obtain ⟨x, hx⟩ := s5 t (Nat.le_refl _)
      refine ⟨gm x (gi i), ?_⟩
      rw [c, e1, cnj_m, ← hx, s4]
      unfold cnj
      rw [gi_i]
    · rw [e0 j (by omega)]
      exact s5 j (by omega)
theorem dq_end {a b : Gn m} {S : Int} (h : dqS a S (szD m) b) : nls a S := by
  obtain ⟨s, s1, s2, s3, s4, s5⟩ := h
  obtain ⟨x0, e0⟩ := s5 0 (Nat.zero_le _)
  intro x hx
  rw [cnj_all e0 x] at hx
  exact idle_d s1 s2 s3 _ hx
theorem glen_c (x a : Gn m) : glen (cnj x a) = glen a := by
  unfold cnj
  rw [glen_m, glen_m, glen_i]
  omega
theorem nrs_n {a : Gn m} {k : Int} {h : okT m.1 []} (e : ∃ x, gF m k [] h = cnj x a) : nrs a k ∧ nls a k := by
  obtain ⟨x, e⟩ := e
  have l := congrArg glen e
  unfold gF at l
  rw [glen_c, glen_m, glen_D, gL_nil, glen_1, Int.add_zero] at l
  have s1 := sz_D1 (m := m)
  constructor
  · intro y hy
    have := (gle_ln hy).1
    rw [glen_D, glen_c, ← l, Int.add_mul, Int.one_mul] at this
    omega
  · intro y hy
    have := (gle_ln hy).1
    rw [glen_D, glen_c, ← l, Int.sub_mul, Int.one_mul] at this
    omega
/-- a form at the summit of a braid's class -/
def smF (z1 : ow_MS) (m : N5) (a : Gn m) (k : Int) (F : List Nat) : Prop := fmI z1 m.1 F ∧ z1.1 112 = iI k ∧ F.length ≤ 16 ∧ -16 ≤ k ∧ k + (F.length : Int) ≤ 16 ∧ nfL m.1 F ∧ (∃ h x, gF m k F h = cnj x a) ∧ nrs a k ∧ nls a (k + (F.length : Int))
theorem xr_summitOf {b l : Nat} {w : Nat → Nat × Bool} {a : Gn m} (hb : b < 20) (hh : hBr z b m.1 l) (hT : tbG z) (hwd : ∀ i, i < l → (w i).1 + 1 < m.1 ∧ z.2.1 94 (16 * b + i) = lx9 (w i)) (ha : ∃ h, a = gF m (foT m.1 w l).2 (foT m.1 w l).1 h) (hw1 : -16 ≤ (foT m.1 w l).2) (hw2 : (foT m.1 w l).2 + ((foT m.1 w l).1.length : Int) ≤ 16) (hw3 : (foT m.1 w l).1.length ≤ 16) : Te (fun K => qe_X13_summitOf K (nI b) z) (fun z1 => (∃ k F, smF z1 m a k F) ∧ fr nmH z z1) := by
  have h2 := hh.1
  have h5 := hh.2.1
  have hN := nn_pos (n := m.1)
  obtain ⟨-, -, -, -, hm1, hm2⟩ := f_fiv h2 h5 (a := 0) (by omega)
  let Q : ow_MS → Prop := fun z1 => (∃ k F, smF z1 m a k F) ∧ fr nmH z z1
  have tF : ∀ {y : ow_MS}, fr nmH z y → tbG y := fun hf => tbG_fr hf (fun g hg => by unfold nmH at hg; omega) hT
  have hmo : szG m.1 (gNN m.1 - 1) = szD m := rfl
  rw [hmo] at hm1 hm2
  have c4 : ∀ (M d t : Nat) (F : List Nat) (k : Int) (y : ow_MS) (hF : okT m.1 F), F.length ≤ M → t + d = szD m → fmI y m.1 F → y.1 112 = iI k → F.length ≤ 16 → -16 ≤ k → k + (F.length : Int) ≤ 16 → nfL m.1 F → dqS a (k + (F.length : Int)) t (gF m k F hF) → nrs a k → fr nmH z y → Tt (fun K i => q_X13_summitOf K i 4 (nI b) (nI m.1) (nI (szD m)) (nI t) 0 0 y) Q := by
    intro M
    induction M using Nat.strongRecOn with
    | ind M ihM =>
    intro d
    induction d with
    | zero =>
      intro t F k y hF hM ht hS hk hl k1 k2 hn hq hr hf
      have ht : t = szD m := by omega
      subst ht
      have := hq
      obtain ⟨s, s1, s2, s3, s4, s5⟩ := this
      obtain ⟨x, hx⟩ := s5 _ (Nat.le_refl _)
      refine u_X13_summitOf_4 ?_; unfold qm_X13_summitOf_4
      exact w_leT (by omega) (by omega) (w_some ⟨⟨k, F, hS, hk, hl, k1, k2, hn, ⟨hF, x, s4.symm.trans hx⟩, hr, dq_end hq⟩, hf⟩)
    | succ d ih =>
      intro t F k y hF hM ht hS hk hl k1 k2 hn hq hr hf
      have hcx : ∃ x, gF m k F hF = cnj x a := by
        obtain ⟨s, s1, s2, s3, s4, s5⟩ := hq
        obtain ⟨x, hx⟩ := s5 _ (Nat.le_refl _)
        exact ⟨x, s4.symm.trans hx⟩
      refine u_X13_summitOf_4 ?_; unfold qm_X13_summitOf_4
      refine w_leF (by omega) (by omega) (w_rdF hS.1.1 (w_le (b := 0) (by omega) (by omega) (fun h0 => ?_) (fun hpos => ?_)))
      · have e0 : F = [] := List.eq_nil_of_length_eq_zero (by omega)
        subst e0
        have := nrs_n hcx
        refine w_some ⟨⟨k, [], hS, hk, hl, k1, k2, hn, ⟨hF, hcx⟩, hr, ?_⟩, hf⟩
        show nls a (k + 0)
        rw [Int.add_zero]
        exact this.2
      · obtain ⟨U0, s0, eF⟩ : ∃ U0 s0, F = U0 ++ [s0] := by
          rcases List.eq_nil_or_concat F with h9 | ⟨G, c, h9⟩
          · rw [h9] at hpos
            exact absurd hpos (by decide)
          · exact ⟨G, c, by rw [h9, List.concat_eq_append]⟩
        refine w_rdF hk (w_rdF hS.1.1 (w_cs0 (xr_cyc1 eF (tF hf) hS hl hk (by omega) (by omega)) (fun y1 ⟨⟨j, F', f1, f2, f3, f4, f5⟩, f6⟩ => ?_)))
        subst eF
        obtain ⟨q1, q2, q3, q4⟩ := dcy_F (k := k) (h := hF) hn
        have e1 := F_eq (m := m) (k := k) (hT := q2) (hF := f1.1) f2
        rw [e1] at q4
        have len1 : (U0 ++ [s0]).length = U0.length + 1 := by rw [List.length_append]; rfl
        rw [List.length_cons] at f5
        rw [len1] at hM hl k2 hq
        have hcx' : ∃ x, gF m (k + (j : Int)) F' f1.1 = cnj x a := by
          obtain ⟨x, hx⟩ := hcx
          refine ⟨gm x (gi (gL m [s0] q1)), ?_⟩
          rw [cnj_m, ← hx, ← q4]
          unfold cnj
          rw [gi_i]
        have j0 : j = 0 := by
          refine Classical.byContradiction (fun hne => ?_)
          obtain ⟨x, hx⟩ := hcx'
          refine hr x ?_
          rw [← hx]
          exact (inf_F f1).mpr (by omega)
        subst j0
        have ek : k + ((0 : Nat) : Int) = k := Int.add_zero k
        rw [ek] at q4 f4 hcx'
        refine w_rdF f4 (w_rdF f3.1.1 (w_if (fun hle => ?_) (fun hgt => ?_)))
        · rw [len1, nI_iI, nI_iI, iI_add, iI_add, iI_le (by omega) (by omega) (by omega) (by omega)] at hle
          have el : F'.length = U0.length + 1 := by omega
          refine u_X13_summitOf_5 ?_; unfold qm_X13_summitOf_5
          rw [nI_1]
          refine ih (t + 1) F' k y1 f1.1 (by omega) (by omega) f3 f4 (by omega) k1 (by omega) f1 ?_ hr (fr_tr hf f6)
          rw [el, ← q4]
          refine dq_s hq q3 ?_
          rw [q4]
          intro h9
          have := (sup_F f1).mp h9
          omega
        · rw [len1, nI_iI, nI_iI, iI_add, iI_add, iI_le (by omega) (by omega) (by omega) (by omega)] at hgt
          refine u_X13_summitOf_5 ?_; unfold qm_X13_summitOf_5
          refine ihM F'.length (by omega) (szD m) 0 F' k y1 f1.1 (Nat.le_refl _) (by omega) f3 f4 (by omega) k1 (by omega) f1 (dq_0 ((sup_F f1).mpr (Int.le_refl _)) (fun h9 => ?_) hcx') hr (fr_tr hf f6)
          have := (sup_F f1).mp h9
          omega
  have c3 : ∀ (x4 : Int32) (F : List Nat) (k : Int) (y : ow_MS) (hF : okT m.1 F), fmI y m.1 F → y.1 112 = iI k → F.length ≤ 16 → -16 ≤ k → k + (F.length : Int) ≤ 16 → nfL m.1 F → (∃ x, gF m k F hF = cnj x a) → nrs a k → fr nmH z y → Tt (fun K i => q_X13_summitOf K i 3 (nI b) (nI m.1) (nI (szD m)) x4 0 0 y) Q := by
    intro x4 F k y hF hS hk hl k1 k2 hn hx hr hf
    refine u_X13_summitOf_3 ?_; unfold qm_X13_summitOf_3
    refine c4 F.length (szD m) 0 F k y hF (Nat.le_refl _) (by omega) hS hk hl k1 k2 hn (dq_0 ((sup_F hn).mpr (Int.le_refl _)) (fun h9 => ?_) hx) hr hf
    have := (sup_F hn).mp h9
    omega
  have c1 : ∀ (M d t : Nat) (F : List Nat) (k : Int) (y : ow_MS) (hF : okT m.1 F), (16 - k).toNat ≤ M → t + d = szD m → fmI y m.1 F → y.1 112 = iI k → F.length ≤ 16 → -16 ≤ k → k + (F.length : Int) ≤ 16 → nfL m.1 F → cqS a k t (gF m k F hF) → fr nmH z y → Tt (fun K i => q_X13_summitOf K i 1 (nI b) (nI m.1) (nI (szD m)) (nI t) 0 0 y) Q := by
    intro M
    induction M using Nat.strongRecOn with
    | ind M ihM =>
    intro d
    induction d with
    | zero =>
      intro t F k y hF hM ht hS hk hl k1 k2 hn hq hf
      have ht : t = szD m := by omega
      subst ht
      have := hq
      obtain ⟨s, s1, s2, s3, s4, s5⟩ := this
      obtain ⟨x, hx⟩ := s5 _ (Nat.le_refl _)
      refine u_X13_summitOf_1 ?_; unfold qm_X13_summitOf_1
      exact w_leT (by omega) (by omega) (c3 _ F k y hF hS hk hl k1 k2 hn ⟨x, s4.symm.trans hx⟩ (cq_end hq) hf)
    | succ d ih =>
      intro t F k y hF hM ht hS hk hl k1 k2 hn hq hf
      have hcx : ∃ x, gF m k F hF = cnj x a := by
        obtain ⟨s, s1, s2, s3, s4, s5⟩ := hq
        obtain ⟨x, hx⟩ := s5 _ (Nat.le_refl _)
        exact ⟨x, s4.symm.trans hx⟩
      refine u_X13_summitOf_1 ?_; unfold qm_X13_summitOf_1
      refine w_leF (by omega) (by omega) (w_rdF hS.1.1 (w_le (b := 0) (by omega) (by omega) (fun h0 => ?_) (fun hpos => ?_)))
      · have e0 : F = [] := List.eq_nil_of_length_eq_zero (by omega)
        subst e0
        exact c3 _ [] k y hF hS hk hl k1 k2 hn hcx (nrs_n hcx).1 hf
      · obtain ⟨s0, U0, eF⟩ : ∃ s0 U0, F = s0 :: U0 := by
          cases F with
          | nil => exact absurd hpos (by decide)
          | cons c G => exact ⟨c, G, rfl⟩
        refine w_rdF hk (w_cs0 (xr_cyc0 eF (tF hf) hS hl hk (by omega) (by omega)) (fun y1 ⟨⟨j, F', f1, f2, f3, f4, f5⟩, f6⟩ => ?_))
        subst eF
        obtain ⟨q1, q2, q3, q4⟩ := cyc_F (k := k) (h := hF) hn
        have e1 := F_eq (m := m) (k := k) (hT := q2) (hF := f1.1) f2
        rw [e1] at q4
        rw [List.length_append, List.length_singleton] at f5
        rw [List.length_cons] at hl k2
        have hcx' : ∃ x, gF m (k + (j : Int)) F' f1.1 = cnj x a := by
          obtain ⟨x, hx⟩ := hcx
          refine ⟨gm x (gL m [tuG m.1 k s0] q1), ?_⟩
          rw [cnj_m, ← hx, ← q4]
        refine w_rdF f4 (w_if (fun hle => ?_) (fun hgt => ?_))
        · rw [iI_le (by omega) (by omega) (by omega) (by omega)] at hle
          have j0 : j = 0 := by omega
          subst j0
          have ek : k + ((0 : Nat) : Int) = k := Int.add_zero k
          rw [ek] at q4 f4
          refine u_X13_summitOf_2 ?_; unfold qm_X13_summitOf_2
          rw [nI_1]
          refine ih (t + 1) F' k y1 f1.1 (by omega) (by omega) f3 f4 (by omega) k1 (by omega) f1 ?_ (fr_tr hf f6)
          rw [← q4]
          refine cq_s hq q3 ?_
          rw [q4]
          intro h9
          have := (inf_F f1).mp h9
          omega
        · rw [iI_le (by omega) (by omega) (by omega) (by omega)] at hgt
          refine u_X13_summitOf_2 ?_; unfold qm_X13_summitOf_2
          refine ihM (16 - (k + (j : Int))).toNat (by omega) (szD m) 0 F' (k + (j : Int)) y1 f1.1 (Nat.le_refl _) (by omega) f3 f4 (by omega) (by omega) (by omega) f1 (cq_0 ((inf_F f1).mpr (Int.le_refl _)) (fun h9 => ?_) hcx') (fr_tr hf f6)
          have := (inf_F f1).mp h9
          omega
  obtain ⟨h0, ea⟩ := ha
  obtain ⟨j, F, f1, f2⟩ := nf_ex h0
  have e1 := F_eq (m := m) (k := (foT m.1 w l).2) (hT := h0) (hF := f1.1) f2
  have sl : F.length + j ≤ (foT m.1 w l).1.length := by
    have e := F_eq (m := m) (k := 0) (hT := h0) (hF := f1.1) f2
    have a1 : gle (gF m 0 (foT m.1 w l).1 h0) (gD m ((foT m.1 w l).1.length : Int)) := by
      unfold gF
      have : gD m 0 = g1 m := rfl
      rw [this, g1_l]
      exact sup_le _
    rw [e] at a1
    have := (sup_F f1).mp a1
    omega
  refine e_X13_summitOf ?_
  refine u_X13_summitOf_0 ?_; unfold qm_X13_summitOf_0
  refine w_cs0 (te_and (tp_formOf hb hh hT) (xr_formOf hb hh hT hwd f1 f2)) (fun y ⟨⟨_, f9⟩, u1, u2⟩ => ?_)
  have e96 : y.2.1 96 b = nI m.1 := by rw [(f9 96 (by unfold nmH; omega)).2.1]; exact hh.2.2.2.1
  have hTy := (tF f9) m.1 h2 h5
  have hTd := (hTy.2 (gNN m.1 - 1) (by omega)).1
  rw [hmo] at hTd
  refine w_rdI ml96 rfl (by omega) e96 (w_rdI ml97 rfl (by omega) hTy.1 (w_rdI (i := 120 * m.1 + (gNN m.1 - 1)) ml100 (by rw [ix120, show nI (120 * m.1 + gNN m.1) - 1 = nI (120 * m.1 + gNN m.1 - 1) from pk_sub (b := 1) (by omega)]; congr 1; omega) (by omega) hTd ?_))
  refine c1 (16 - ((foT m.1 w l).2 + (j : Int))).toNat (szD m) 0 F ((foT m.1 w l).2 + (j : Int)) y f1.1 (Nat.le_refl _) (by omega) u1 u2 (by omega) (by omega) (by omega) f1 (cq_0 ((inf_F f1).mpr (Int.le_refl _)) (fun h9 => ?_) ⟨g1 m, ?_⟩) f9
  · have := (inf_F f1).mp h9
    omega
  · rw [cnj_1, ea, e1]
end XS2
