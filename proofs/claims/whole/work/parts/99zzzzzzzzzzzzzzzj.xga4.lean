/-! braids: cyclings that raise; summit sets hang together -/
section XG5
variable {m : N5}
def rsd (k : Int) (a : Gn m) : Prop := gle (gD m (k + 1)) a
def mnP (k : Int) (a d : Gn m) : Prop := gpo d ∧ rsd k (gm d (gm a (gi d))) ∧ ∀ f, gpo f → rsd k (gm f (gm a (gi f))) → glen d ≤ glen f
theorem D_k1 (k : Int) : gD m (k + 1) = gm (gD m k) (gD m 1) := (gD_m k 1).symm
theorem D_cm (k l : Int) : gm (gD m k) (gD m l) = gm (gD m l) (gD m k) := by
  rw [gD_m, gD_m, Int.add_comm]
theorem D_c1 (k l : Int) : gm (gi (gD m k)) (gm (gD m l) (gD m k)) = gD m l := by
  rw [D_cm l k, gi_cl]
theorem rsd_cj {k j : Int} {a : Gn m} (h : rsd k a) : rsd k (gm (gi (gD m j)) (gm a (gD m j))) := by
  have := gp_cj j h
  unfold rsd gle
  rw [gm_as] at this
  rw [gi_D, gi_D, ← gm_as, gD_m, Int.add_comm, ← gD_m, gm_as]
  rw [gi_D, gi_D] at this
  exact this
theorem rsd_ci {k j : Int} {a : Gn m} (h : rsd k a) : rsd k (gm (gD m j) (gm a (gi (gD m j)))) := by
  have := rsd_cj (j := -j) h
  rw [gi_D, Int.neg_neg, ← gi_D] at this
  exact this
/-- what is raised: delta times a positive one -/
theorem rsd_q {k : Int} {a : Gn m} (h : rsd k a) : ∃ q, gpo q ∧ a = gm (gD m k) (gm (gD m 1) q) := by
  refine ⟨gm (gi (gD m (k + 1))) a, h, ?_⟩
  rw [← gm_as, ← D_k1, gi_cr]
theorem low_i {k : Int} {a i : Gn m} (hl : gle (gD m k) a) (hi : isM (gm a (gi (gD m k))) (gD m 1) i) : gpo i ∧ gpo (gm (gD m 1) (gi i)) ∧ glen i ≤ glen (gD m 1) := by
  have p1 : gpo (gm a (gi (gD m k))) := by
    have := gp_ci k hl
    rw [gm_as, gi_cr] at this
    exact this
  have pi : gpo i := gle_1.mp (hi.2.2 _ (gle_1.mpr p1) (gle_1.mpr (gp_D 1)))
  refine ⟨pi, ?_, (gle_ln hi.2.1).1⟩
  have := gp_ci 1 hi.2.1
  rw [gm_as, gi_r, g1_r] at this
  exact this
theorem low_c {k : Int} {a i : Gn m} (hl : gle (gD m k) a) (hi : isM (gm a (gi (gD m k))) (gD m 1) i) : gle (gD m k) (gm (gi i) (gm a i)) := by
  have w := gp_cj k hi.1
  have := gp_m w (low_i hl hi).1
  unfold gle
  simp only [gm_as, gi_m, gi_i, gi_cl, gi_cr, gi_l, gi_r, g1_l, g1_r] at this ⊢
  exact this
theorem bkl_st {k : Int} {a d i : Gn m} (hl : gle (gD m k) a) (hd : mnP k a d) (hi : isM (gm a (gi (gD m k))) (gD m 1) i) : mnP k (gm (gi i) (gm a i)) (gm (gi (gD m 1)) (gm d i)) ∧ ∀ e e', isM d (gD m 1) e → isM (gm (gi (gD m 1)) (gm d i)) (gD m 1) e' → glen e = 0 ∨ glen e' < glen e := by
  obtain ⟨d1, d2, d3⟩ := hd
  obtain ⟨i1, i2, i3⟩ := low_i hl hi
  obtain ⟨q, q1, q2⟩ := rsd_q d2
  have eQ : gm d a = gm (gD m k) (gm (gD m 1) (gm q d)) := by
    have := congrArg (fun x => gm x d) q2
    simp only [gm_as, gi_l, g1_r] at this
    exact this
  have cmE : gm (gD m k) (gD m 1) = gm (gD m 1) (gD m k) := D_cm k 1
  -- the new one is positive
  have g1' : gle (gD m 1) (gm d i) := by
    rw [← gi_i d, ← gle_s (gi d)]
    refine hi.2.2 _ ?_ ?_
    · rw [gle_s (gi d), gi_i, ← gm_as d a, eQ]
      unfold gle
      have := gp_ci k (gp_m q1 d1)
      rw [← gm_as (gD m k), cmE]
      simp only [gm_as, gi_cl] at this ⊢
      exact this
    · rw [gle_s (gi d), gi_i]
      exact gp_cj 1 d1
  have p'' : gpo (gm (gi (gD m 1)) (gm d i)) := g1'
  have r'' : rsd k (gm (gm (gi (gD m 1)) (gm d i)) (gm (gm (gi i) (gm a i)) (gi (gm (gi (gD m 1)) (gm d i))))) := by
    have := rsd_cj (j := 1) d2
    simp only [gm_as, gi_m, gi_i, gi_cl, gi_cr] at this ⊢
    exact this
  have ln'' : glen (gm (gi (gD m 1)) (gm d i)) = glen d + glen i - glen (gD m 1) := by
    rw [glen_m, glen_m, glen_i]
    omega
  refine ⟨⟨p'', r'', fun f f1 f2 => ?_⟩, fun e e' he he' => ?_⟩
  · have pf : gpo (gm (gD m 1) (gm f (gi i))) := by
      have := gp_m (gp_ci 1 f1) i2
      simp only [gm_as, gi_cl] at this
      exact this
    have rf : rsd k (gm (gm (gD m 1) (gm f (gi i))) (gm a (gi (gm (gD m 1) (gm f (gi i)))))) := by
      have := rsd_ci (j := 1) f2
      simp only [gm_as, gi_m, gi_i, gi_cl, gi_cr] at this ⊢
      exact this
    have := d3 _ pf rf
    rw [glen_m, glen_m, glen_i] at this
    rw [ln'']
    omega
  · have pe : gpo e := gle_1.mp (he.2.2 _ (gle_1.mpr d1) (gle_1.mpr (gp_D 1)))
    obtain ⟨u, hu⟩ : ∃ u, u = gm (gi e) (gD m 1) := ⟨_, rfl⟩
    have pu : gpo u := by rw [hu]; exact he.2.1
    have ee : gi e = gm u (gi (gD m 1)) := by
      rw [hu, gm_as, gi_r, g1_r]
    -- the braid between
    have hlow : gle (gD m k) (gm (gi e) (gm (gm d (gm a (gi d))) e)) := by
      rw [q2, ee]
      unfold gle
      have := gp_m (gp_cj k pu) (gp_m q1 pe)
      have c9 : gm (gi (gD m 1)) (gm (gD m k) (gm (gD m 1) (gm q e))) = gm (gD m k) (gm q e) := by
        rw [← gm_as (gD m k), cmE, gm_as, gi_cl]
      simp only [gm_as] at this ⊢
      rw [c9]
      exact this
    obtain ⟨ie, hie⟩ := gmeet (gm (gm (gi e) (gm (gm d (gm a (gi d))) e)) (gi (gD m k))) (gD m 1)
    obtain ⟨j1, j2, j3⟩ := low_i hlow hie
    have b0 : gle (gm (gD m 1) e') (gm d i) := by
      rw [gle_s]
      exact he'.1
    have b1 : gle (gm (gD m 1) e') (gm (gD m 1) (gD m 1)) := (gle_l _).mpr he'.2.1
    have key : gle (gm (gD m 1) e') (gm e ie) := by
      rw [← gi_i e, ← gle_s (gi e)]
      refine hie.2.2 _ ?_ ?_
      · rw [gm_as (gi e), gle_l (gi e)]
        -- below Q e D^-k
        have s1 : gle (gm (gi (gm d (gm a (gi d)))) (gm (gm (gD m 1) e') (gD m k))) e := by
          refine he.2.2 _ ?_ ?_
          · rw [gle_s, gi_i]
            have b2 : gle (gm (gD m 1) e') (gm d (gm a (gi (gD m k)))) := gle_tr b0 ((gle_l d).mpr hi.1)
            have := gle_rD k b2
            simp only [gm_as, gi_l, g1_r] at this ⊢
            exact this
          · rw [gle_s, gi_i]
            have b2 : gle (gD m 1) (gm (gm d (gm a (gi d))) (gi (gD m k))) := by
              rw [q2]
              unfold gle
              have := gp_ci k q1
              rw [← gm_as (gD m k), cmE]
              simp only [gm_as, gi_cl] at this ⊢
              exact this
            have b3 := gle_tr b1 (gle_rD 1 b2)
            have := gle_rD k b3
            have c9 : gm (gi (gD m k)) (gm (gD m 1) (gD m k)) = gD m 1 := D_c1 k 1
            simp only [gm_as] at this ⊢
            rw [c9] at this
            exact this
        rw [gle_s, gi_i] at s1
        have := gle_ri k s1
        simp only [gm_as, gi_r, g1_r] at this ⊢
        exact this
      · rw [gle_s (gi e), gi_i]
        have s1 : gle (gm (gm (gD m 1) e') (gi (gD m 1))) e := by
          refine he.2.2 _ ?_ ?_
          · have b2 : gle (gm (gD m 1) e') (gm d (gD m 1)) := gle_tr b0 ((gle_l d).mpr hi.2.1)
            have := gle_ri 1 b2
            simp only [gm_as, gi_r, g1_r] at this ⊢
            exact this
          · have := gle_ri 1 b1
            simp only [gm_as, gi_r, g1_r] at this ⊢
            exact this
        have := gle_rD 1 s1
        simp only [gm_as, gi_l, g1_r] at this ⊢
        exact this
    have kl := (gle_ln key).1
    rw [glen_m, glen_m] at kl
    by_cases h9 : glen e' < glen e
    · exact Or.inr h9
    · refine Or.inl ?_
      have e9 : ie = gD m 1 := (gle_ln hie.2.1).2 (by omega)
      have rE : rsd k (gm (gi e) (gm (gm d (gm a (gi d))) e)) := by
        have h1 := hie.1
        rw [e9] at h1
        have := gle_rD k h1
        rw [gm_as, gi_l, g1_r, D_cm 1 k, ← D_k1] at this
        exact this
      have pf : gpo (gm (gi e) d) := he.1
      have rf : rsd k (gm (gm (gi e) d) (gm a (gi (gm (gi e) d)))) := by
        simp only [gm_as, gi_m, gi_i] at rE ⊢
        exact rE
      have := d3 _ pf rf
      rw [glen_m, glen_i] at this
      have := gp_0 pe
      omega
/-- at most as many cyclings as delta has letters raise what can be raised -/
theorem bkl {k : Int} {s i : Nat → Gn m} (hl : gle (gD m k) (s 0)) (hi : ∀ j, isM (gm (s j) (gi (gD m k))) (gD m 1) (i j)) (hs : ∀ j, s (j + 1) = gm (gi (i j)) (gm (s j) (i j))) {x : Gn m} (hx : rsd k (gm (gi x) (gm (s 0) x))) : ∃ N, N ≤ szD m ∧ rsd k (s N) := by
  have low : ∀ j, gle (gD m k) (s j) := by
    intro j
    induction j with
    | zero => exact hl
    | succ j ih =>
      rw [hs j]
      exact low_c ih (hi j)
  have key : ∀ (L j : Nat) (d e : Gn m), mnP k (s j) d → isM d (gD m 1) e → glen e ≤ (L : Int) → ∃ N, N ≤ j + L ∧ rsd k (s N) := by
    intro L
    induction L with
    | zero =>
      intro j d e hd he hL
      have pe : gpo e := gle_1.mp (he.2.2 _ (gle_1.mpr hd.1) (gle_1.mpr (gp_D 1)))
      have := gp_0 pe
      have ed := gp_D1 hd.1 he (by omega)
      have h2 := hd.2.1
      rw [ed, gi_1, g1_l, g1_r] at h2
      exact ⟨j, by omega, h2⟩
    | succ L ih =>
      intro j d e hd he hL
      obtain ⟨e', he'⟩ := gmeet (gm (gi (gD m 1)) (gm d (i j))) (gD m 1)
      obtain ⟨k1, k2⟩ := bkl_st (low j) hd (hi j)
      rcases k2 e e' he he' with h9 | h9
      · have ed := gp_D1 hd.1 he h9
        have h2 := hd.2.1
        rw [ed, gi_1, g1_l, g1_r] at h2
        exact ⟨j, by omega, h2⟩
      · rw [← hs j] at k1
        obtain ⟨N, n1, n2⟩ := ih (j + 1) _ e' k1 he' (by omega)
        exact ⟨N, by omega, n2⟩
  -- a shortest one
  obtain ⟨j, hj⟩ := g_up (gi x)
  have p0 := hj j (Nat.le_refl _)
  have r0 : rsd k (gm (gm (gD m (j : Int)) (gi x)) (gm (s 0) (gi (gm (gD m (j : Int)) (gi x))))) := by
    have := rsd_ci (j := (j : Int)) hx
    simp only [gm_as, gi_m, gi_i] at this ⊢
    exact this
  obtain ⟨L, ⟨d, d1, d2, d3⟩, hmin⟩ := pk_least (fun L : Nat => ∃ d : Gn m, gpo d ∧ rsd k (gm d (gm (s 0) (gi d))) ∧ glen d = (L : Int)) ⟨(glen (gm (gD m (j : Int)) (gi x))).toNat, _, p0, r0, by have := gp_0 p0; omega⟩
  have hd : mnP k (s 0) d := ⟨d1, d2, fun f f1 f2 => by
    have f0 := gp_0 f1
    rcases Int.lt_or_le (glen f) (glen d) with h9 | h9
    · exact absurd ⟨f, f1, f2, by omega⟩ (hmin (glen f).toNat (by omega))
    · exact h9⟩
  obtain ⟨e, he⟩ := gmeet d (gD m 1)
  have le := (gle_ln he.2.1).1
  rw [glen_D, Int.one_mul] at le
  obtain ⟨N, n1, n2⟩ := key (szD m) 0 d e hd he le
  exact ⟨N, by omega, n2⟩
/-- between two of a summit set: a simple one that stays in it -/
theorem sss_st {k s : Int} {a x e : Gn m} (l1 : gle (gD m k) a) (u1 : gle a (gD m s)) (l2 : gle (gD m k) (gm (gi x) (gm a x))) (u2 : gle (gm (gi x) (gm a x)) (gD m s)) (he : isM x (gD m 1) e) : gle (gD m k) (gm (gi e) (gm a e)) ∧ gle (gm (gi e) (gm a e)) (gD m s) := by
  constructor
  · rw [← gle_s]
    have s1 : gle (gm (gi a) (gm e (gD m k))) e := by
      refine he.2.2 _ ?_ ?_
      · rw [gle_s, gi_i]
        rw [← gle_s] at l2
        exact gle_tr (gle_rD k he.1) l2
      · rw [gle_s, gi_i]
        refine gle_tr (gle_rD k he.2.1) ?_
        rw [D_cm 1 k]
        exact gle_rD 1 l1
    rw [gle_s, gi_i] at s1
    exact s1
  · rw [gle_s, gi_i]
    have s1 : gle (gm (gm a e) (gi (gD m s))) e := by
      refine he.2.2 _ ?_ ?_
      · rw [gle_s, gi_i] at u2
        have := gle_ri s (gle_tr ((gle_l a).mpr he.1) u2)
        rw [gm_as x, gi_r, g1_r] at this
        exact this
      · have h1 := gle_tr ((gle_l a).mpr he.2.1) (gle_rD 1 u1)
        rw [D_cm s 1] at h1
        have := gle_ri s h1
        rw [gm_as (gD m 1), gi_r, g1_r] at this
        exact this
    have := gle_rD s s1
    rw [gm_as (gm a e), gi_l, g1_r] at this
    exact this
end XG5
