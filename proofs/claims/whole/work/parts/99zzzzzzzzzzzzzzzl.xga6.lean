/-! braids: cycling and decycling of forms; where they stop; the whole summit set -/
section XG7
variable {m : N5}
noncomputable def cnj (x a : Gn m) : Gn m := gm (gi x) (gm a x)
def gF (m : N5) (k : Int) (F : List Nat) (h : okT m.1 F) : Gn m := gm (gD m k) (gL m F h)
theorem cnj_m (x y a : Gn m) : cnj (gm x y) a = cnj y (cnj x a) := by
  unfold cnj
  simp only [gm_as, gi_m]
theorem cnj_1 (a : Gn m) : cnj (g1 m) a = a := by
  unfold cnj
  rw [gi_1, g1_l, g1_r]
theorem cnj_i (x a : Gn m) : gi (cnj x a) = cnj x (gi a) := by
  unfold cnj
  simp only [gm_as, gi_m, gi_i]
theorem inf_F {k j : Int} {F : List Nat} {h : okT m.1 F} (hF : nfL m.1 F) : gle (gD m j) (gF m k F h) ↔ j ≤ k := by
  constructor
  · intro h9
    rcases Int.lt_or_le k j with h8 | h8
    · exfalso
      have := gle_tr (gle_sm (show k + 1 ≤ j by omega)) h9
      unfold gF at this
      rw [D_k1, gle_l] at this
      exact nf_inf hF this
    · exact h8
  · intro h9
    exact gle_tr (gle_sm h9) (gle_p gp_L)
theorem sup_F {k s : Int} {F : List Nat} {h : okT m.1 F} (hF : nfL m.1 F) : gle (gF m k F h) (gD m s) ↔ k + (F.length : Int) ≤ s := by
  have e : gle (gF m k F h) (gD m s) ↔ gle (gL m F h) (gD m (-k + s)) := by
    unfold gF
    rw [gle_s, gi_D, gD_m]
  rw [e]
  constructor
  · intro h9
    rcases Int.lt_or_le (-k + s) 0 with h8 | h8
    · exfalso
      have := (gle_ln h9).1
      rw [glen_L, glen_D] at this
      have s1 := sz_D1 (m := m)
      have : (-k + s) * (szD m : Int) < 0 := Int.mul_neg_of_neg_of_pos h8 (by omega)
      omega
    · obtain ⟨l, hl⟩ : ∃ l : Nat, -k + s = (l : Int) := ⟨(-k + s).toNat, by omega⟩
      rw [hl] at h9
      have := nf_sup F l hF h9
      omega
  · intro h9
    exact gle_tr (sup_le F) (gle_sm (by omega))
theorem nf_uni {F G : List Nat} {hF : okT m.1 F} {hG : okT m.1 G} (h1 : nfL m.1 F) (h2 : nfL m.1 G) (e : gL m F hF = gL m G hG) : F = G := by
  have key : ∀ (F G : List Nat) (hF : okT m.1 F) (hG : okT m.1 G), nfL m.1 F → nfL m.1 G → gL m F hF = gL m G hG → F = G := by
    intro F
    induction F with
    | nil =>
      intro G hF hG _ h2 e
      cases G with
      | nil => rfl
      | cons g G =>
        exfalso
        have := congrArg glen e
        rw [glen_L, glen_L] at this
        have z : szT m.1 (g :: G) = szG m.1 g + szT m.1 G := rfl
        have z0 : szT m.1 [] = 0 := rfl
        exact (h2.2.2 g List.mem_cons_self).1 (sz_z m.2.1 m.2.2 (okT_c.mp hG).1 (by omega))
    | cons f F ih =>
      intro G hF hG h1 h2 e
      cases G with
      | nil =>
        exfalso
        have := congrArg glen e
        rw [glen_L, glen_L] at this
        have z : szT m.1 (f :: F) = szG m.1 f + szT m.1 F := rfl
        have z0 : szT m.1 [] = 0 := rfl
        exact (h1.2.2 f List.mem_cons_self).1 (sz_z m.2.1 m.2.2 (okT_c.mp hF).1 (by omega))
      | cons g G =>
        obtain ⟨hf, hF'⟩ := okT_c.mp hF
        obtain ⟨hg, hG'⟩ := okT_c.mp hG
        have f1 : okT m.1 [f] := okT_c.mpr ⟨hf, okT_n⟩
        have g1' : okT m.1 [g] := okT_c.mpr ⟨hg, okT_n⟩
        have M1 := fst_M (hf := f1) (hF := hF) h1.2.1
        have M2 := fst_M (hf := g1') (hF := hG) h2.2.1
        rw [e] at M1
        have e1 := isM_un M1 M2
        have e2 : eqT m.1 [f] [g] := gL_ex e1
        have d1 := (dv_1 m.2.1 m.2.2 hf hg).mp ⟨[], okT_n, eqT_sy e2⟩
        have d2 := (dv_1 m.2.1 m.2.2 hg hf).mp ⟨[], okT_n, e2⟩
        have efg : f = g := dv_as m.2.1 m.2.2 hf hg d1 d2
        subst efg
        rw [gL_c f1 hF', gL_c f1 hG'] at e
        have e3 := congrArg (fun x => gm (gi (gL m [f] f1)) x) e
        simp only [gi_cl] at e3
        rw [ih G hF' hG' (nf_c h1) (nf_c h2) e3]
  exact key F G hF hG h1 h2 e
theorem F_uni {k k' : Int} {F G : List Nat} {hF : okT m.1 F} {hG : okT m.1 G} (h1 : nfL m.1 F) (h2 : nfL m.1 G) (e : gF m k F hF = gF m k' G hG) : k = k' ∧ F = G := by
  have a1 := (inf_F (h := hF) (k := k) (j := k) h1).mpr (Int.le_refl _)
  rw [e] at a1
  have a2 := (inf_F (h := hG) (k := k') (j := k') h2).mpr (Int.le_refl _)
  rw [← e] at a2
  have b1 := (inf_F h2).mp a1
  have b2 := (inf_F h1).mp a2
  have ek : k = k' := by omega
  subst ek
  refine ⟨rfl, nf_uni (hF := hF) (hG := hG) h1 h2 ?_⟩
  have e3 := congrArg (fun x => gm (gi (gD m k)) x) e
  unfold gF at e3
  simp only [gi_cl] at e3
  exact e3
theorem F_eq {k : Int} {j : Nat} {T F : List Nat} {hT : okT m.1 T} {hF : okT m.1 F} (e : eqT m.1 T (List.replicate j (gNN m.1 - 1) ++ F)) : gF m k T hT = gF m (k + j) F hF := by
  unfold gF
  have hR : okT m.1 (List.replicate j (gNN m.1 - 1)) := rp_ok
  rw [gL_eq (hT := okT_a.mpr ⟨hR, hF⟩) e, ← gL_m hR hF, gL_rp, ← gm_as, gD_m]
theorem F_ex (a : Gn m) : ∃ k F h, nfL m.1 F ∧ a = gF m k F h := by
  obtain ⟨a, rfl⟩ := g_rep a
  obtain ⟨j, F, f1, f2⟩ := nf_ex a.2
  refine ⟨a.1.1 + j, F, f1.1, f1, ?_⟩
  rw [g_eq]
  exact F_eq f2
theorem ovp_n {n : Nat} {k : Int} {T : List Nat} : ovp n (-k) T = ovp n k T := by
  unfold ovp
  by_cases h : k % 2 = 0
  · rw [if_pos h, if_pos (by omega)]
  · rw [if_neg h, if_neg (by omega)]
theorem D_L {k : Int} {T : List Nat} (hT : okT m.1 T) : gm (gD m k) (gL m T hT) = gm (gL m (ovp m.1 k T) (ovp_ok m.2.1 m.2.2 hT)) (gD m k) := by
  rw [gL_D]
  congr 1
  refine gL_eq ?_
  have e : ovp m.1 k (ovp m.1 k T) = T := by
    have := ovp_ov (k := k) (l := k) m.2.1 m.2.2 hT
    rw [this]
    exact if_pos (by omega)
  rw [e]
  exact eqT_rf _
theorem nf_ovp {n : Nat} (h2 : 2 ≤ n) (h5 : n ≤ 5) {k : Int} {F : List Nat} (h : nfL n F) : nfL n (ovp n k F) := by
  unfold ovp
  split
  · exact h
  · exact nf_ov h2 h5 h
def tuG (n : Nat) (k : Int) (f : Nat) : Nat := if k % 2 = 0 then f else ovG n f
theorem tu_lt {n : Nat} (h2 : 2 ≤ n) (h5 : n ≤ 5) {k : Int} {f : Nat} (hf : f < gNN n) : tuG n k f < gNN n := by
  unfold tuG
  split
  · exact hf
  · exact ov_lt h2 h5 hf
theorem ovp_c {n : Nat} {k : Int} {f : Nat} {F : List Nat} : ovp n k (f :: F) = tuG n k f :: ovp n k F := by
  unfold ovp tuG
  split <;> rfl
/-- the first factor goes behind -/
theorem cyc_F {k : Int} {f : Nat} {F : List Nat} {h : okT m.1 (f :: F)} (hn : nfL m.1 (f :: F)) : ∃ (h1 : okT m.1 [tuG m.1 k f]) (h3 : okT m.1 (F ++ [tuG m.1 k f])), isM (gm (gF m k (f :: F) h) (gi (gD m k))) (gD m 1) (gL m [tuG m.1 k f] h1) ∧ cnj (gL m [tuG m.1 k f] h1) (gF m k (f :: F) h) = gF m k (F ++ [tuG m.1 k f]) h3 := by
  obtain ⟨hf, hF⟩ := okT_c.mp h
  have ht := tu_lt (k := k) m.2.1 m.2.2 hf
  have h1 : okT m.1 [tuG m.1 k f] := okT_c.mpr ⟨ht, okT_n⟩
  have hf1 : okT m.1 [f] := okT_c.mpr ⟨hf, okT_n⟩
  refine ⟨h1, okT_a.mpr ⟨hF, h1⟩, ?_, ?_⟩
  · have e : gm (gF m k (f :: F) h) (gi (gD m k)) = gL m (tuG m.1 k f :: ovp m.1 k F) (okT_c.mpr ⟨ht, ovp_ok m.2.1 m.2.2 hF⟩) := by
      unfold gF
      rw [D_L, gm_as, gi_r, g1_r]
      refine gL_eq ?_
      rw [ovp_c]
      exact eqT_rf _
    rw [e]
    have := nf_ovp (k := k) m.2.1 m.2.2 hn
    rw [ovp_c] at this
    exact fst_M this.2.1
  · have e1 : gm (gD m k) (gL m [f] hf1) = gm (gL m [tuG m.1 k f] h1) (gD m k) := by
      rw [D_L hf1]
      congr 1
      refine gL_eq ?_
      rw [ovp_c, ovp_nil]
      exact eqT_rf _
    unfold cnj gF
    rw [gL_c hf1 hF, ← gm_as (gD m k), e1, ← gL_m hF h1]
    simp only [gm_as, gi_cl]
/-- the last factor goes before -/
theorem dcy_F {k : Int} {a : Nat} {F : List Nat} {h : okT m.1 (F ++ [a])} (hn : nfL m.1 (F ++ [a])) : ∃ (h1 : okT m.1 [a]) (h3 : okT m.1 (tuG m.1 k a :: F)), isM (gm (gi (gF m k (F ++ [a]) h)) (gD m (k + ((F.length + 1 : Nat) : Int)))) (gD m 1) (gm (gi (gL m [a] h1)) (gD m 1)) ∧ gm (gL m [a] h1) (gm (gF m k (F ++ [a]) h) (gi (gL m [a] h1))) = gF m k (tuG m.1 k a :: F) h3 := by
  obtain ⟨hF, h1⟩ := okT_a.mp h
  have ha := (okT_c.mp h1).1
  have ht := tu_lt (k := k) m.2.1 m.2.2 ha
  have ht1 : okT m.1 [tuG m.1 k a] := okT_c.mpr ⟨ht, okT_n⟩
  refine ⟨h1, okT_c.mpr ⟨ht, hF⟩, ?_, ?_⟩
  · have e : gm (gi (gF m k (F ++ [a]) h)) (gD m (k + ((F.length + 1 : Nat) : Int))) = gm (gi (gL m (F ++ [a]) h)) (gD m ((F.length + 1 : Nat) : Int)) := by
      unfold gF
      rw [gi_m, gm_as, ← gD_m, gi_cl]
    rw [e]
    exact lst_M h1 hn
  · have e1 : gm (gL m [a] h1) (gD m k) = gm (gD m k) (gL m [tuG m.1 k a] ht1) := by
      rw [gL_D]
      congr 1
      refine gL_eq ?_
      rw [ovp_c, ovp_nil]
      exact eqT_rf _
    unfold gF
    rw [← gL_m hF h1, gL_c ht1 hF]
    simp only [gm_as, gi_r, g1_r]
    rw [← gm_as (gL m [a] h1), e1, gm_as]
/-- conjugating by a simple one, as a list -/
theorem cj_F {k : Int} {s : Nat} {F : List Nat} (hs : s < gNN m.1) {h : okT m.1 F} {h1 : okT m.1 [s]} {h3 : okT m.1 (tuG m.1 k (ahG m.1 s) :: F ++ [s])} : cnj (gL m [s] h1) (gF m k F h) = gF m (k - 1) (tuG m.1 k (ahG m.1 s) :: F ++ [s]) h3 := by
  obtain ⟨a1, a2⟩ := okT_a.mp h3
  obtain ⟨a3, -⟩ := okT_c.mp a1
  have ha := (f_one m.2.1 m.2.2 hs).2.1
  have hA : okT m.1 [ahG m.1 s] := okT_c.mpr ⟨ha, okT_n⟩
  have hA' : okT m.1 [tuG m.1 k (ahG m.1 s)] := okT_c.mpr ⟨a3, okT_n⟩
  have e0 : gm (gL m [ahG m.1 s] hA) (gL m [s] h1) = gD m 1 := by
    rw [gL_m]
    exact D_t ha hs (ta_n m.2.1 m.2.2 hs).2
  have e1 : gi (gL m [s] h1) = gm (gi (gD m 1)) (gL m [ahG m.1 s] hA) := by
    have := congrArg (fun x => gm (gi (gD m 1)) (gm x (gi (gL m [s] h1)))) e0
    simp only [gm_as, gi_r, g1_r, gi_cl] at this
    exact this.symm
  have e2 : gm (gL m [ahG m.1 s] hA) (gD m k) = gm (gD m k) (gL m [tuG m.1 k (ahG m.1 s)] hA') := by
    rw [gL_D]
    congr 1
    refine gL_eq ?_
    rw [ovp_c, ovp_nil]
    exact eqT_rf _
  have e3 : gL m (tuG m.1 k (ahG m.1 s) :: F ++ [s]) h3 = gm (gL m [tuG m.1 k (ahG m.1 s)] hA') (gm (gL m F h) (gL m [s] h1)) := by
    rw [gL_m h h1, gL_m]
    rfl
  unfold cnj gF
  rw [e1, e3]
  simp only [gm_as]
  rw [← gm_as (gL m [ahG m.1 s] hA), e2, gi_D, show gD m (k - 1) = gm (gD m (-1)) (gD m k) by rw [gD_m]; congr 1; omega]
  simp only [gm_as]
theorem inv_le {S : Int} {a : Gn m} : rsd (-S) (gi a) ↔ gle a (gD m (S - 1)) := by
  have e : gD m (-S + 1) = gi (gD m (S - 1)) := by
    rw [gi_D]
    congr 1
    omega
  unfold rsd gle
  rw [e, gi_i]
  constructor
  · intro h
    have := gp_cj (S - 1) h
    simp only [gm_as, gi_cl] at this
    exact this
  · intro h
    have := gp_ci (S - 1) h
    simp only [gm_as, gi_r, g1_r] at this
    exact this
noncomputable def mt9 (a b : Gn m) : Gn m := Classical.choose (gmeet a b)
theorem mt9_M (a b : Gn m) : isM a b (mt9 a b) := Classical.choose_spec (gmeet a b)
noncomputable def cyS (k : Int) (a : Gn m) : Nat → Gn m
  | 0 => a
  | j + 1 => cnj (mt9 (gm (cyS k a j) (gi (gD m k))) (gD m 1)) (cyS k a j)
/-- as many idle cyclings as delta has letters: nothing is raised -/
theorem idle_c {k : Int} {s : Nat → Gn m} (hl : gle (gD m k) (s 0)) (hs : ∀ j, j < szD m → ∃ i, isM (gm (s j) (gi (gD m k))) (gD m 1) i ∧ s (j + 1) = cnj i (s j)) (h0 : ∀ j, j ≤ szD m → ¬ rsd k (s j)) (x : Gn m) : ¬ rsd k (cnj x (s 0)) := by
  intro hx
  have e : ∀ j, j ≤ szD m → cyS k (s 0) j = s j := by
    intro j
    induction j with
    | zero => exact fun _ => rfl
    | succ j ih =>
      intro hj
      have ih := ih (by omega)
      obtain ⟨i, i1, i2⟩ := hs j (by omega)
      show cnj (mt9 (gm (cyS k (s 0) j) (gi (gD m k))) (gD m 1)) (cyS k (s 0) j) = s (j + 1)
      rw [ih, i2, isM_un (mt9_M _ _) i1]
  obtain ⟨N, n1, n2⟩ := bkl (s := cyS k (s 0)) (i := fun j => mt9 (gm (cyS k (s 0) j) (gi (gD m k))) (gD m 1)) hl (fun j => mt9_M _ _) (fun j => rfl) hx
  rw [e N n1] at n2
  exact h0 N n1 n2
theorem isM_D {a b c : Gn m} (j : Int) (h : isM a b c) : isM (cnj (gD m j) a) (cnj (gD m j) b) (cnj (gD m j) c) := by
  have up : ∀ {x y : Gn m}, gle x y → gle (cnj (gD m j) x) (cnj (gD m j) y) := fun {x y} h => (gle_l _).mpr (gle_rD j h)
  refine ⟨up h.1, up h.2.1, fun z h1 h2 => ?_⟩
  have back : ∀ {x y : Gn m}, gle x (cnj (gD m j) y) → gle (gm (gD m j) (gm x (gi (gD m j)))) y := fun {x y} h => by
    have := (gle_l (gD m j)).mpr (gle_ri j h)
    unfold cnj at this
    simp only [gm_as, gi_cr, gi_r, g1_r] at this ⊢
    exact this
  have := up (h.2.2 _ (back h1) (back h2))
  unfold cnj at this
  simp only [gm_as, gi_cl, gi_l, g1_r] at this
  exact this
theorem idle_d {S : Int} {s : Nat → Gn m} (hl : gle (s 0) (gD m S)) (hs : ∀ j, j < szD m → ∃ a, isM (gm (gi (s j)) (gD m S)) (gD m 1) (gm (gi a) (gD m 1)) ∧ s (j + 1) = gm a (gm (s j) (gi a))) (h0 : ∀ j, j ≤ szD m → ¬ gle (s j) (gD m (S - 1))) (x : Gn m) : ¬ gle (cnj x (s 0)) (gD m (S - 1)) := by
  intro hx
  have t0 : cnj (gD m ((0 : Nat) : Int)) (gi (s 0)) = gi (s 0) := by
    have : gD m ((0 : Nat) : Int) = g1 m := rfl
    rw [this, cnj_1]
  refine idle_c (k := -S) (s := fun j => cnj (gD m (j : Int)) (gi (s j))) ?_ (fun j hj => ?_) (fun j hj h9 => ?_) x ?_
  · show gle (gD m (-S)) (cnj (gD m ((0 : Nat) : Int)) (gi (s 0)))
    rw [t0]
    have : rsd (-(S + 1)) (gi (s 0)) := inv_le.mpr (by rw [show S + 1 - 1 = S by omega]; exact hl)
    unfold rsd at this
    rw [show -(S + 1) + 1 = -S by omega] at this
    exact this
  · obtain ⟨a, a1, a2⟩ := hs j hj
    refine ⟨cnj (gD m (j : Int)) (gm (gi a) (gD m 1)), ?_, ?_⟩
    · have k := isM_D (j : Int) a1
      have e1 : cnj (gD m (j : Int)) (gD m 1) = gD m 1 := D_c1 _ _
      have e2 : cnj (gD m (j : Int)) (gm (gi (s j)) (gD m S)) = gm (cnj (gD m (j : Int)) (gi (s j))) (gi (gD m (-S))) := by
        unfold cnj
        rw [gi_D (-S), Int.neg_neg]
        simp only [gm_as]
        rw [D_cm S]
      rw [e1, e2] at k
      exact k
    · show cnj (gD m ((j + 1 : Nat) : Int)) (gi (s (j + 1))) = _
      have e3 : gD m ((j + 1 : Nat) : Int) = gm (gD m 1) (gD m (j : Int)) := by
        rw [gD_m]
        congr 1
        omega
      rw [a2, e3]
      unfold cnj
      simp only [gm_as, gi_m, gi_i, gi_cr]
  · have h9 : rsd (-S) (cnj (gD m (j : Int)) (gi (s j))) := h9
    have := rsd_ci (j := (j : Int)) h9
    unfold cnj at this
    simp only [gm_as, gi_cr, gi_r, g1_r] at this
    exact h0 j hj (inv_le.mp this)
  · show rsd (-S) (cnj x (cnj (gD m ((0 : Nat) : Int)) (gi (s 0))))
    rw [t0, ← cnj_i]
    exact inv_le.mpr hx
theorem D2_c (j : Int) (a : Gn m) : gm a (gD m (2 * j)) = gm (gD m (2 * j)) a := by
  obtain ⟨a, rfl⟩ := g_rep a
  rw [g_eq, gm_as, gL_D, ← gm_as, D_cm, gm_as]
  congr 1
  congr 1
  refine gL_eq ?_
  rw [show ovp m.1 (2 * j) a.1.2 = a.1.2 from if_pos (by omega)]
  exact eqT_rf _
/-- what holds for one of a summit set and goes on by simple ones holds for all -/
theorem sss_all {k S : Int} {C : Gn m → Prop} (hC : ∀ b t h, C b → t < gNN m.1 → t ≠ 0 → gle (gD m k) (cnj (gL m [t] h) b) → gle (cnj (gL m [t] h) b) (gD m S) → C (cnj (gL m [t] h) b)) {b : Gn m} (hb : C b) (l : gle (gD m k) b) (u : gle b (gD m S)) {x : Gn m} (lx : gle (gD m k) (cnj x b)) (ux : gle (cnj x b) (gD m S)) : C (cnj x b) := by
  have key : ∀ (L : Nat) (x b : Gn m), gpo x → glen x ≤ (L : Int) → C b → gle (gD m k) b → gle b (gD m S) → gle (gD m k) (cnj x b) → gle (cnj x b) (gD m S) → C (cnj x b) := by
    intro L
    induction L with
    | zero =>
      intro x b px hL hb l u lx ux
      have := gp_0 px
      have e := gp_z px (by omega)
      rw [e, cnj_1]
      exact hb
    | succ L ih =>
      intro x b px hL hb l u lx ux
      obtain ⟨e, he⟩ := gmeet x (gD m 1)
      have pe : gpo e := gle_1.mp (he.2.2 _ (gle_1.mpr px) (gle_1.mpr (gp_D 1)))
      by_cases e0 : glen e = 0
      · have ex := gp_D1 px he e0
        rw [ex, cnj_1]
        exact hb
      · obtain ⟨l1, u1⟩ := sss_st l u lx ux he
        obtain ⟨t, ht, t1, et⟩ := gp_smp pe he.2.1
        have t0 : t ≠ 0 := fun h9 => e0 (by
          rw [et, glen_L, h9]
          have : szT m.1 [0] = szG m.1 0 + 0 := rfl
          rw [this, sz_0 m.2.1 m.2.2]
          rfl)
        have c1 : C (cnj e b) := by
          rw [et]
          rw [et] at l1 u1
          exact hC b t ht hb t1 t0 l1 u1
        have ex : cnj x b = cnj (gm (gi e) x) (cnj e b) := by
          rw [← cnj_m, gi_cr]
        rw [ex] at lx ux ⊢
        have := gp_0 pe
        refine ih _ _ he.1 ?_ c1 l1 u1 lx ux
        rw [glen_m, glen_i]
        omega
  obtain ⟨j, hj⟩ := g_up x
  have p := hj (2 * j) (by omega)
  rw [show ((2 * j : Nat) : Int) = 2 * (j : Int) by omega, ← D2_c] at p
  have ex : cnj (gm x (gD m (2 * (j : Int)))) b = cnj x b := by
    rw [cnj_m]
    show gm (gi (gD m (2 * (j : Int)))) (gm (cnj x b) (gD m (2 * (j : Int)))) = _
    rw [D2_c, gi_cl]
  have := key (glen (gm x (gD m (2 * (j : Int))))).toNat _ b p (by have := gp_0 p; omega) hb l u (by rw [ex]; exact lx) (by rw [ex]; exact ux)
  rw [ex] at this
  exact this
/-- the same where only those are tried that don't begin with one that stays -/
theorem sss_pr {k S : Int} {C : Gn m → Prop} (hC : ∀ b t h, C b → t < gNN m.1 → t ≠ 0 → gle (gD m k) (cnj (gL m [t] h) b) → gle (cnj (gL m [t] h) b) (gD m S) → C (cnj (gL m [t] h) b) ∨ ∃ t' h', t' < gNN m.1 ∧ t' ≠ 0 ∧ t' ≠ t ∧ ddG m.1 t t' = 0 ∧ gle (gD m k) (cnj (gL m [t'] h') b) ∧ gle (cnj (gL m [t'] h') b) (gD m S)) : ∀ b t h, C b → t < gNN m.1 → t ≠ 0 → gle (gD m k) (cnj (gL m [t] h) b) → gle (cnj (gL m [t] h) b) (gD m S) → C (cnj (gL m [t] h) b) := by
  have h2 := m.2.1
  have h5 := m.2.2
  have key : ∀ (L : Nat) (b : Gn m) (t : Nat) (h : okT m.1 [t]), szG m.1 t ≤ L → C b → t < gNN m.1 → t ≠ 0 → gle (gD m k) (cnj (gL m [t] h) b) → gle (cnj (gL m [t] h) b) (gD m S) → C (cnj (gL m [t] h) b) := by
    intro L
    induction L with
    | zero =>
      intro b t h hL hb t1 t0 l u
      exact absurd (sz_z h2 h5 t1 (by omega)) t0
    | succ L ih =>
      intro b t h hL hb t1 t0 l u
      rcases hC b t h hb t1 t0 l u with h9 | ⟨t', h', a1, a2, a3, a4, a5, a6⟩
      · exact h9
      · have hd := dd_lt h2 h5 a1 t1
        have e1 := dd_mu h2 h5 a1 t1 a4
        have e2 := (mu_lt h2 h5 a1 e1).2
        have d0 : ddG m.1 t' t ≠ 0 := fun e9 => by
          rw [e9, mu_r0 h2 h5] at e1
          omega
        have s1 : szG m.1 t' ≠ 0 := fun e9 => a2 (sz_z h2 h5 a1 e9)
        have s2 : szG m.1 (ddG m.1 t' t) ≠ 0 := fun e9 => d0 (sz_z h2 h5 hd e9)
        have c1 := ih b t' h' (by omega) hb a1 a2 a5 a6
        have hr : okT m.1 [ddG m.1 t' t] := okT_c.mpr ⟨hd, okT_n⟩
        have et : gL m [t] h = gm (gL m [t'] h') (gL m [ddG m.1 t' t] hr) := by
          rw [gL_m]
          refine gL_eq (eqT_sy (eqT_tr (eqT_swp (X := []) (Y := []) h2 h5 okT_n okT_n a1 hd nn_0 e1 (mu_r0 h2 h5)) (eqT_id (X := [t]) (Y := []) h2 h5 h okT_n)))
        rw [et, cnj_m] at l u ⊢
        exact ih _ _ hr (by omega) c1 hd d0 l u
  exact fun b t h hb t1 t0 l u => key (szG m.1 t) b t h (Nat.le_refl _) hb t1 t0 l u
end XG7
