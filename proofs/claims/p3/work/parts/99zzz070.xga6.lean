section
/-! 99zzzzzzzzzzzzzzzl.xga6 -/
/-! braids: cycling and decycling of forms; where they stop; the whole summit set -/
section XG7
variable {m : N5}
noncomputable def cnj (x a : Gn m) : Gn m := gm (gi x) (gm a x)
def gF (m : N5) (k : Int) (F : List Nat) (h : okT m.1 F) : Gn m := gm (gD m k) (gL m F h)
theorem cnj_m (x y a : Gn m) : cnj (gm x y) a = cnj y (cnj x a) := by
  unfold cnj
  simp only [gm_as, gi_m]
theorem cnj_1 (a : Gn m) : cnj (g1 m) a = a := by
  unfold cnj
  rw [gi_1, g1_l, g1_r]
theorem cnj_i (x a : Gn m) : gi (cnj x a) = cnj x (gi a) := by
  unfold cnj
  simp only [gm_as, gi_m, gi_i]
theorem inf_F {k j : Int} {F : List Nat} {h : okT m.1 F} (hF : nfL m.1 F) : gle (gD m j) (gF m k F h) ↔ j ≤ k := by
  constructor
  · intro h9
    rcases Int.lt_or_le k j with h8 | h8
    · exfalso
      have := gle_tr (gle_sm (show k + 1 ≤ j by omega)) h9
      unfold gF at this
      rw [D_k1, gle_l] at this
      exact nf_inf hF this
    · exact h8
  · intro h9
    exact gle_tr (gle_sm h9) (gle_p gp_L)
theorem sup_F {k s : Int} {F : List Nat} {h : okT m.1 F} (hF : nfL m.1 F) : gle (gF m k F h) (gD m s) ↔ k + (F.length : Int) ≤ s := by
  have e : gle (gF m k F h) (gD m s) ↔ gle (gL m F h) (gD m (-k + s)) := by
    unfold gF
    rw [gle_s, gi_D, gD_m]
  rw [e]
  constructor
  · intro h9
    rcases Int.lt_or_le (-k + s) 0 with h8 | h8
    · exfalso
      have := (gle_ln h9).1
      rw [glen_L, glen_D] at this
      have s1 := sz_D1 (m := m)
      have : (-k + s) * (szD m : Int) < 0 := Int.mul_neg_of_neg_of_pos h8 (by omega)
      omega
    · obtain ⟨l, hl⟩ : ∃ l : Nat, -k + s = (l : Int) := ⟨(-k + s).toNat, by omega⟩
      rw [hl] at h9
      have := nf_sup F l hF h9
      omega
  · intro h9
    exact gle_tr (sup_le F) (gle_sm (by omega))
theorem nf_uni {F G : List Nat} {hF : okT m.1 F} {hG : okT m.1 G} (h1 : nfL m.1 F) (h2 : nfL m.1 G) (e : gL m F hF = gL m G hG) : F = G := by
  have key : ∀ (F G : List Nat) (hF : okT m.1 F) (hG : okT m.1 G), nfL m.1 F → nfL m.1 G → gL m F hF = gL m G hG → F = G := by
    intro F
    induction F with
    | nil =>
      intro G hF hG _ h2 e
      cases G with
      | nil => rfl
      | cons g G =>
        exfalso
        have := congrArg glen e
        rw [glen_L, glen_L] at this
        have z : szT m.1 (g :: G) = szG m.1 g + szT m.1 G := rfl
        have z0 : szT m.1 [] = 0 := rfl
        exact (h2.2.2 g List.mem_cons_self).1 (sz_z m.2.1 m.2.2 (okT_c.mp hG).1 (by omega))
    | cons f F ih =>
      intro G hF hG h1 h2 e
      cases G with
      | nil =>
        exfalso
        have := congrArg glen e
        rw [glen_L, glen_L] at this
        have z : szT m.1 (f :: F) = szG m.1 f + szT m.1 F := rfl
        have z0 : szT m.1 [] = 0 := rfl
        exact (h1.2.2 f List.mem_cons_self).1 (sz_z m.2.1 m.2.2 (okT_c.mp hF).1 (by omega))
      | cons g G =>
        obtain ⟨hf, hF'⟩ := okT_c.mp hF
        obtain ⟨hg, hG'⟩ := okT_c.mp hG
        have f1 : okT m.1 [f] := okT_c.mpr ⟨hf, okT_n⟩
        have g1' : okT m.1 [g] := okT_c.mpr ⟨hg, okT_n⟩
        have M1 := fst_M (hf := f1) (hF := hF) h1.2.1
        have M2 := fst_M (hf := g1') (hF := hG) h2.2.1
        rw [e] at M1
        have e1 := isM_un M1 M2
        have e2 : eqT m.1 [f] [g] := gL_ex e1
        have d1 := (dv_1 m.2.1 m.2.2 hf hg).mp ⟨[], okT_n, eqT_sy e2⟩
        have d2 := (dv_1 m.2.1 m.2.2 hg hf).mp ⟨[], okT_n, e2⟩
        have efg : f = g := dv_as m.2.1 m.2.2 hf hg d1 d2
        subst efg
        rw [gL_c f1 hF', gL_c f1 hG'] at e
        have e3 := congrArg (fun x => gm (gi (gL m [f] f1)) x) e
        simp only [gi_cl] at e3
        rw [ih G hF' hG' (nf_c h1) (nf_c h2) e3]
  exact key F G hF hG h1 h2 e
theorem F_uni {k k' : Int} {F G : List Nat} {hF : okT m.1 F} {hG : okT m.1 G} (h1 : nfL m.1 F) (h2 : nfL m.1 G) (e : gF m k F hF = gF m k' G hG) : k = k' ∧ F = G := by
  have a1 := (inf_F (h := hF) (k := k) (j := k) h1).mpr (Int.le_refl _)
  rw [e] at a1
  have a2 := (inf_F (h := hG) (k := k') (j := k') h2).mpr (Int.le_refl _)
  rw [← e] at a2
  have b1 := (inf_F h2).mp a1
  have b2 := (inf_F h1).mp a2
  have ek : k = k' := by omega
  subst ek
  refine ⟨rfl, nf_uni (hF := hF) (hG := hG) h1 h2 ?_⟩
  have e3 := congrArg (fun x => gm (gi (gD m k)) x) e
  unfold gF at e3
  simp only [gi_cl] at e3
  exact e3
theorem F_eq {k : Int} {j : Nat} {T F : List Nat} {hT : okT m.1 T} {hF : okT m.1 F} (e : eqT m.1 T (List.replicate j (gNN m.1 - 1) ++ F)) : gF m k T hT = gF m (k + j) F hF := by
  unfold gF
  have hR : okT m.1 (List.replicate j (gNN m.1 - 1)) := rp_ok
  rw [gL_eq (hT := okT_a.mpr ⟨hR, hF⟩) e, ← gL_m hR hF, gL_rp, ← gm_as, gD_m]
theorem F_ex (a : Gn m) : ∃ k F h, nfL m.1 F ∧ a = gF m k F h := by
  obtain ⟨a, rfl⟩ := g_rep a
  obtain ⟨j, F, f1, f2⟩ := nf_ex a.2
  refine ⟨a.1.1 + j, F, f1.1, f1, ?_⟩
  rw [g_eq]
  exact F_eq f2
theorem D_L {k : Int} {T : List Nat} (hT : okT m.1 T) : gm (gD m k) (gL m T hT) = gm (gL m (ovp m.1 k T) (ovp_ok m.2.1 m.2.2 hT)) (gD m k) := by
  rw [gL_D]
  congr 1
  refine gL_eq ?_
  have e : ovp m.1 k (ovp m.1 k T) = T := by
    have := ovp_ov (k := k) (l := k) m.2.1 m.2.2 hT
    rw [this]
    exact if_pos (by omega)
  rw [e]
  exact eqT_rf _
theorem nf_ovp {n : Nat} (h2 : 2 ≤ n) (h5 : n ≤ 5) {k : Int} {F : List Nat} (h : nfL n F) : nfL n (ovp n k F) := by
  unfold ovp
  split
  · exact h
  · exact nf_ov h2 h5 h
def tuG (n : Nat) (k : Int) (f : Nat) : Nat := if k % 2 = 0 then f else ovG n f
theorem tu_lt {n : Nat} (h2 : 2 ≤ n) (h5 : n ≤ 5) {k : Int} {f : Nat} (hf : f < gNN n) : tuG n k f < gNN n := by
  unfold tuG
  split
  · exact hf
  · exact ov_lt h2 h5 hf
theorem ovp_c {n : Nat} {k : Int} {f : Nat} {F : List Nat} : ovp n k (f :: F) = tuG n k f :: ovp n k F := by
  unfold ovp tuG
  split <;> rfl
/-- the first factor goes behind -/
theorem cyc_F {k : Int} {f : Nat} {F : List Nat} {h : okT m.1 (f :: F)} (hn : nfL m.1 (f :: F)) : ∃ (h1 : okT m.1 [tuG m.1 k f]) (h3 : okT m.1 (F ++ [tuG m.1 k f])), isM (gm (gF m k (f :: F) h) (gi (gD m k))) (gD m 1) (gL m [tuG m.1 k f] h1) ∧ cnj (gL m [tuG m.1 k f] h1) (gF m k (f :: F) h) = gF m k (F ++ [tuG m.1 k f]) h3 := by
  obtain ⟨hf, hF⟩ := okT_c.mp h
  have ht := tu_lt (k := k) m.2.1 m.2.2 hf
  have h1 : okT m.1 [tuG m.1 k f] := okT_c.mpr ⟨ht, okT_n⟩
  have hf1 : okT m.1 [f] := okT_c.mpr ⟨hf, okT_n⟩
  refine ⟨h1, okT_a.mpr ⟨hF, h1⟩, ?_, ?_⟩
  · have e : gm (gF m k (f :: F) h) (gi (gD m k)) = gL m (tuG m.1 k f :: ovp m.1 k F) (okT_c.mpr ⟨ht, ovp_ok m.2.1 m.2.2 hF⟩) := by
      unfold gF
      rw [D_L, gm_as, gi_r, g1_r]
      refine gL_eq ?_
      rw [ovp_c]
      exact eqT_rf _
    rw [e]
    have := nf_ovp (k := k) m.2.1 m.2.2 hn
    rw [ovp_c] at this
    exact fst_M this.2.1
  · have e1 : gm (gD m k) (gL m [f] hf1) = gm (gL m [tuG m.1 k f] h1) (gD m k) := by
      rw [D_L hf1]
      congr 1
      refine gL_eq ?_
      rw [ovp_c, ovp_nil]
      exact eqT_rf _
    unfold cnj gF
    rw [gL_c hf1 hF, ← gm_as (gD m k), e1, ← gL_m hF h1]
    simp only [gm_as, gi_cl]
/-- the last factor goes before -/
theorem dcy_F {k : Int} {a : Nat} {F : List Nat} {h : okT m.1 (F ++ [a])} (hn : nfL m.1 (F ++ [a])) : ∃ (h1 : okT m.1 [a]) (h3 : okT m.1 (tuG m.1 k a :: F)), isM (gm (gi (gF m k (F ++ [a]) h)) (gD m (k + ((F.length + 1 : Nat) : Int)))) (gD m 1) (gm (gi (gL m [a] h1)) (gD m 1)) ∧ gm (gL m [a] h1) (gm (gF m k (F ++ [a]) h) (gi (gL m [a] h1))) = gF m k (tuG m.1 k a :: F) h3 := by
  obtain ⟨hF, h1⟩ := okT_a.mp h
  have ha := (okT_c.mp h1).1
  have ht := tu_lt (k := k) m.2.1 m.2.2 ha
  have ht1 : okT m.1 [tuG m.1 k a] := okT_c.mpr ⟨ht, okT_n⟩
  refine ⟨h1, okT_c.mpr ⟨ht, hF⟩, ?_, ?_⟩
  · have e : gm (gi (gF m k (F ++ [a]) h)) (gD m (k + ((F.length + 1 : Nat) : Int))) = gm (gi (gL m (F ++ [a]) h)) (gD m ((F.length + 1 : Nat) : Int)) := by
      unfold gF
      rw [gi_m, gm_as, ← gD_m, gi_cl]
    rw [e]
    exact lst_M h1 hn
  · have e1 : gm (gL m [a] h1) (gD m k) = gm (gD m k) (gL m [tuG m.1 k a] ht1) := by
      rw [gL_D]
      congr 1
      refine gL_eq ?_
      rw [ovp_c, ovp_nil]
      exact eqT_rf _
    unfold gF
    rw [← gL_m hF h1, gL_c ht1 hF]
    simp only [gm_as, gi_r, g1_r]
    rw [← gm_as (gL m [a] h1), e1, gm_as]
/-- conjugating by a simple one, as a list -/
theorem cj_F {k : Int} {s : Nat} {F : List Nat} (hs : s < gNN m.1) {h : okT m.1 F} {h1 : okT m.1 [s]} {h3 : okT m.1 (tuG m.1 k (ahG m.1 s) :: F ++ [s])} : cnj (gL m [s] h1) (gF m k F h) = gF m (k - 1) (tuG m.1 k (ahG m.1 s) :: F ++ [s]) h3 := by
  obtain ⟨a1, a2⟩ := okT_a.mp h3
  obtain ⟨a3, -⟩ := okT_c.mp a1
  have ha := (f_one m.2.1 m.2.2 hs).2.1
  have hA : okT m.1 [ahG m.1 s] := okT_c.mpr ⟨ha, okT_n⟩
  have hA' : okT m.1 [tuG m.1 k (ahG m.1 s)] := okT_c.mpr ⟨a3, okT_n⟩
  have e0 : gm (gL m [ahG m.1 s] hA) (gL m [s] h1) = gD m 1 := by
    rw [gL_m]
    exact D_t ha hs (ta_n m.2.1 m.2.2 hs).2
  have e1 : gi (gL m [s] h1) = gm (gi (gD m 1)) (gL m [ahG m.1 s] hA) := by
    have := congrArg (fun x => gm (gi (gD m 1)) (gm x (gi (gL m [s] h1)))) e0
    simp only [gm_as, gi_r, g1_r, gi_cl] at this
    exact this.symm
  have e2 : gm (gL m [ahG m.1 s] hA) (gD m k) = gm (gD m k) (gL m [tuG m.1 k (ahG m.1 s)] hA') := by
    rw [gL_D]
    congr 1
    refine gL_eq ?_
    rw [ovp_c, ovp_nil]
    exact eqT_rf _
  have e3 : gL m (tuG m.1 k (ahG m.1 s) :: F ++ [s]) h3 = gm (gL m [tuG m.1 k (ahG m.1 s)] hA') (gm (gL m F h) (gL m [s] h1)) := by
    rw [gL_m h h1, gL_m]
    rfl
  unfold cnj gF
  rw [e1, e3]
  simp only [gm_as]
  rw [← gm_as (gL m [ahG m.1 s] hA), e2, gi_D, show gD m (k - 1) = gm (gD m (-1)) (gD m k) by rw [gD_m]; congr 1; omega]
  simp only [gm_as]
theorem inv_le {S : Int} {a : Gn m} : rsd (-S) (gi a) ↔ gle a (gD m (S - 1)) := by
  have e : gD m (-S + 1) = gi (gD m (S - 1)) := by
    rw [gi_D]
    congr 1
    omega
  unfold rsd gle
  rw [e, gi_i]
  constructor
  · intro h
    have := gp_cj (S - 1) h
    simp only [gm_as, gi_cl] at this
    exact this
  · intro h
    have := gp_ci (S - 1) h
    simp only [gm_as, gi_r, g1_r] at this
    exact this
noncomputable def mt9 (a b : Gn m) : Gn m := Classical.choose (gmeet a b)
theorem mt9_M (a b : Gn m) : isM a b (mt9 a b) := Classical.choose_spec (gmeet a b)
noncomputable def cyS (k : Int) (a : Gn m) : Nat → Gn m
  | 0 => a
  | j + 1 => cnj (mt9 (gm (cyS k a j) (gi (gD m k))) (gD m 1)) (cyS k a j)
/-- as many idle cyclings as delta has letters: nothing is raised -/
theorem idle_c {k : Int} {s : Nat → Gn m} (hl : gle (gD m k) (s 0)) (hs : ∀ j, j < szD m → ∃ i, isM (gm (s j) (gi (gD m k))) (gD m 1) i ∧ s (j + 1) = cnj i (s j)) (h0 : ∀ j, j ≤ szD m → ¬ rsd k (s j)) (x : Gn m) : ¬ rsd k (cnj x (s 0)) := by
  intro hx
  have e : ∀ j, j ≤ szD m → cyS k (s 0) j = s j := by
    intro j
    induction j with
    | zero => exact fun _ => rfl
    | succ j ih =>
      intro hj
      have ih := ih (by omega)
      obtain ⟨i, i1, i2⟩ := hs j (by omega)
      show cnj (mt9 (gm (cyS k (s 0) j) (gi (gD m k))) (gD m 1)) (cyS k (s 0) j) = s (j + 1)
      rw [ih, i2, isM_un (mt9_M _ _) i1]
  obtain ⟨N, n1, n2⟩ := bkl (s := cyS k (s 0)) (i := fun j => mt9 (gm (cyS k (s 0) j) (gi (gD m k))) (gD m 1)) hl (fun j => mt9_M _ _) (fun j => rfl) hx
  rw [e N n1] at n2
  exact h0 N n1 n2
theorem isM_D {a b c : Gn m} (j : Int) (h : isM a b c) : isM (cnj (gD m j) a) (cnj (gD m j) b) (cnj (gD m j) c) := by
  have up : ∀ {x y : Gn m}, gle x y → gle (cnj (gD m j) x) (cnj (gD m j) y) := fun {x y} h => (gle_l _).mpr (gle_rD j h)
  refine ⟨up h.1, up h.2.1, fun z h1 h2 => ?_⟩
  have back : ∀ {x y : Gn m}, gle x (cnj (gD m j) y) → gle (gm (gD m j) (gm x (gi (gD m j)))) y := fun {x y} h => by
    have := (gle_l (gD m j)).mpr (gle_ri j h)
    unfold cnj at this
    simp only [gm_as, gi_cr, gi_r, g1_r] at this ⊢
    exact this
  have := up (h.2.2 _ (back h1) (back h2))
  unfold cnj at this
  simp only [gm_as, gi_cl, gi_l, g1_r] at this
  exact this
theorem idle_d {S : Int} {s : Nat → Gn m} (hl : gle (s 0) (gD m S)) (hs : ∀ j, j < szD m → ∃ a, isM (gm (gi (s j)) (gD m S)) (gD m 1) (gm (gi a) (gD m 1)) ∧ s (j + 1) = gm a (gm (s j) (gi a))) (h0 : ∀ j, j ≤ szD m → ¬ gle (s j) (gD m (S - 1))) (x : Gn m) : ¬ gle (cnj x (s 0)) (gD m (S - 1)) := by
  intro hx
  have t0 : cnj (gD m ((0 : Nat) : Int)) (gi (s 0)) = gi (s 0) := by
    have : gD m ((0 : Nat) : Int) = g1 m := rfl
    rw [this, cnj_1]
  refine idle_c (k := -S) (s := fun j => cnj (gD m (j : Int)) (gi (s j))) ?_ (fun j hj => ?_) (fun j hj h9 => ?_) x ?_
  · show gle (gD m (-S)) (cnj (gD m ((0 : Nat) : Int)) (gi (s 0)))
    rw [t0]
    have : rsd (-(S + 1)) (gi (s 0)) := inv_le.mpr (by rw [show S + 1 - 1 = S by omega]; exact hl)
    unfold rsd at this
    rw [show -(S + 1) + 1 = -S by omega] at this
    exact this
  · obtain ⟨a, a1, a2⟩ := hs j hj
    refine ⟨cnj (gD m (j : Int)) (gm (gi a) (gD m 1)), ?_, ?_⟩
    · have k := isM_D (j : Int) a1
      have e1 : cnj (gD m (j : Int)) (gD m 1) = gD m 1 := D_c1 _ _
      have e2 : cnj (gD m (j : Int)) (gm (gi (s j)) (gD m S)) = gm (cnj (gD m (j : Int)) (gi (s j))) (gi (gD m (-S))) := by
        unfold cnj
        rw [gi_D (-S), Int.neg_neg]
        simp only [gm_as]
        rw [D_cm S]
      rw [e1, e2] at k
      exact k
    · show cnj (gD m ((j + 1 : Nat) : Int)) (gi (s (j + 1))) = _
      have e3 : gD m ((j + 1 : Nat) : Int) = gm (gD m 1) (gD m (j : Int)) := by
        rw [gD_m]
        congr 1
        omega
      rw [a2, e3]
      unfold cnj
      simp only [gm_as, gi_m, gi_i, gi_cr]
  · have h9 : rsd (-S) (cnj (gD m (j : Int)) (gi (s j))) := h9
    have := rsd_ci (j := (j : Int)) h9
    unfold cnj at this
    simp only [gm_as, gi_cr, gi_r, g1_r] at this
    exact h0 j hj (inv_le.mp this)
  · show rsd (-S) (cnj x (cnj (gD m ((0 : Nat) : Int)) (gi (s 0))))
    rw [t0, ← cnj_i]
    exact inv_le.mpr hx
theorem D2_c (j : Int) (a : Gn m) : gm a (gD m (2 * j)) = gm (gD m (2 * j)) a := by
  obtain ⟨a, rfl⟩ := g_rep a
  rw [g_eq, gm_as, gL_D, ← gm_as, D_cm, gm_as]
  congr 1
  congr 1
  refine gL_eq ?_
  rw [show ovp m.1 (2 * j) a.1.2 = a.1.2 from if_pos (by omega)]
  exact eqT_rf _
/-- what holds for one of a summit set and goes on by simple ones holds for all -/
theorem sss_all {k S : Int} {C : Gn m → Prop} (hC : ∀ b t h, C b → t < gNN m.1 → t ≠ 0 → gle (gD m k) (cnj (gL m [t] h) b) → gle (cnj (gL m [t] h) b) (gD m S) → C (cnj (gL m [t] h) b)) {b : Gn m} (hb : C b) (l : gle (gD m k) b) (u : gle b (gD m S)) {x : Gn m} (lx : gle (gD m k) (cnj x b)) (ux : gle (cnj x b) (gD m S)) : C (cnj x b) := by
  have key : ∀ (L : Nat) (x b : Gn m), gpo x → glen x ≤ (L : Int) → C b → gle (gD m k) b → gle b (gD m S) → gle (gD m k) (cnj x b) → gle (cnj x b) (gD m S) → C (cnj x b) := by
    intro L
    induction L with
    | zero =>
      intro x b px hL hb l u lx ux
      have := gp_0 px
      have e := gp_z px (by omega)
      rw [e, cnj_1]
      exact hb
    | succ L ih =>
      intro x b px hL hb l u lx ux
      obtain ⟨e, he⟩ := gmeet x (gD m 1)
      have pe : gpo e := gle_1.mp (he.2.2 _ (gle_1.mpr px) (gle_1.mpr (gp_D 1)))
      by_cases e0 : glen e = 0
      · have ex := gp_D1 px he e0
        rw [ex, cnj_1]
        exact hb
      · obtain ⟨l1, u1⟩ := sss_st l u lx ux he
        obtain ⟨t, ht, t1, et⟩ := gp_smp pe he.2.1
        have t0 : t ≠ 0 := fun h9 => e0 (by
          rw [et, glen_L, h9]
          have : szT m.1 [0] = szG m.1 0 + 0 := rfl
          rw [this, sz_0 m.2.1 m.2.2]
          rfl)
        have c1 : C (cnj e b) := by
          rw [et]
          rw [et] at l1 u1
          exact hC b t ht hb t1 t0 l1 u1
        have ex : cnj x b = cnj (gm (gi e) x) (cnj e b) := by
          rw [← cnj_m, gi_cr]
        rw [ex] at lx ux ⊢
        have := gp_0 pe
        refine ih _ _ he.1 ?_ c1 l1 u1 lx ux
        rw [glen_m, glen_i]
        omega
  obtain ⟨j, hj⟩ := g_up x
  have p := hj (2 * j) (by omega)
  rw [show ((2 * j : Nat) : Int) = 2 * (j : Int) by omega, ← D2_c] at p
  have ex : cnj (gm x (gD m (2 * (j : Int)))) b = cnj x b := by
    rw [cnj_m]
    show gm (gi (gD m (2 * (j : Int)))) (gm (cnj x b) (gD m (2 * (j : Int)))) = _
    rw [D2_c, gi_cl]
  have := key (glen (gm x (gD m (2 * (j : Int))))).toNat _ b p (by have := gp_0 p; omega) hb l u (by rw [ex]; exact lx) (by rw [ex]; exact ux)
  rw [ex] at this
  exact this
/-- the same where only those are tried that don't begin with one that stays -/
theorem sss_pr {k S : Int} {C : Gn m → Prop} (hC : ∀ b t h, C b → t < gNN m.1 → t ≠ 0 → gle (gD m k) (cnj (gL m [t] h) b) → gle (cnj (gL m [t] h) b) (gD m S) → C (cnj (gL m [t] h) b) ∨ ∃ t' h', t' < gNN m.1 ∧ t' ≠ 0 ∧ t' ≠ t ∧ ddG m.1 t t' = 0 ∧ gle (gD m k) (cnj (gL m [t'] h') b) ∧ gle (cnj (gL m [t'] h') b) (gD m S)) : ∀ b t h, C b → t < gNN m.1 → t ≠ 0 → gle (gD m k) (cnj (gL m [t] h) b) → gle (cnj (gL m [t] h) b) (gD m S) → C (cnj (gL m [t] h) b) := by
  have h2 := m.2.1
  have h5 := m.2.2
  have key : ∀ (L : Nat) (b : Gn m) (t : Nat) (h : okT m.1 [t]), szG m.1 t ≤ L → C b → t < gNN m.1 → t ≠ 0 → gle (gD m k) (cnj (gL m [t] h) b) → gle (cnj (gL m [t] h) b) (gD m S) → C (cnj (gL m [t] h) b) := by
    intro L
    induction L with
    | zero =>
      intro b t h hL hb t1 t0 l u
      exact absurd (sz_z h2 h5 t1 (by omega)) t0
    | succ L ih =>
      intro b t h hL hb t1 t0 l u
      rcases hC b t h hb t1 t0 l u with h9 | ⟨t', h', a1, a2, a3, a4, a5, a6⟩
      · exact h9
      · have hd := dd_lt h2 h5 a1 t1
        have e1 := dd_mu h2 h5 a1 t1 a4
        have e2 := (mu_lt h2 h5 a1 e1).2
        have d0 : ddG m.1 t' t ≠ 0 := fun e9 => by
          rw [e9, mu_r0 h2 h5] at e1
          omega
        have s1 : szG m.1 t' ≠ 0 := fun e9 => a2 (sz_z h2 h5 a1 e9)
        have s2 : szG m.1 (ddG m.1 t' t) ≠ 0 := fun e9 => d0 (sz_z h2 h5 hd e9)
        have c1 := ih b t' h' (by omega) hb a1 a2 a5 a6
        have hr : okT m.1 [ddG m.1 t' t] := okT_c.mpr ⟨hd, okT_n⟩
        have et : gL m [t] h = gm (gL m [t'] h') (gL m [ddG m.1 t' t] hr) := by
          rw [gL_m]
          refine gL_eq (eqT_sy (eqT_tr (eqT_swp (X := []) (Y := []) h2 h5 okT_n okT_n a1 hd nn_0 e1 (mu_r0 h2 h5)) (eqT_id (X := [t]) (Y := []) h2 h5 h okT_n)))
        rw [et, cnj_m] at l u ⊢
        exact ih _ _ hr (by omega) c1 hd d0 l u
  exact fun b t h hb t1 t0 l u => key (szG m.1 t) b t h (Nat.le_refl _) hb t1 t0 l u
end XG7
end
section
/-! 99zzzzzzzzzzzzzzzm.xsm1 -/
/-! summit: the reference's cycling and decycling, exactly -/
section XS1
theorem i_ev : ∀ v : Fin 401, (iI ((v.val : Int) - 200) &&& 1 = 0) ↔ ((v.val : Int) - 200) % 2 = 0 := by decide +kernel
theorem iI_ev {k : Int} (h1 : -200 ≤ k) (h2 : k ≤ 200) : (iI k &&& 1 = 0) ↔ k % 2 = 0 := by
  have := i_ev ⟨(k + 200).toNat, by omega⟩
  have e : (((k + 200).toNat : Int)) - 200 = k := by omega
  dsimp only at this
  rw [e] at this
  exact this
theorem bs_bv {n : Nat} (h2 : 2 ≤ n) (h5 : n ≤ 5) : ∀ (U : List Nat), okT n U → bvG n (bsG n U) U
  | [], _ => trivial
  | u :: U, h => ⟨(f_one h2 h5 (okT_c.mp h).1).2.2.2.2.1, (okT_c.mp h).1, bs_bv h2 h5 U (okT_c.mp h).2⟩
variable {z : ow_MS} {m : N5}
theorem xr_turned {n s : Nat} {k : Int} (h2 : 2 ≤ n) (h5 : n ≤ 5) (hs : s < gNN n) (hT : tbG z) (k1 : -200 ≤ k) (k2 : k ≤ 200) : Te (fun K => qe_X13_turned K (nI n) (nI s) (iI k) z) (fun r => r.2 = z ∧ r.1 = nI (tuG n k s)) := by
  have hN := nn_pos (n := n)
  have h1 := f_one h2 h5 hs
  refine e_X13_turned ?_; unfold qm_X13_turned_0
  rw [ix120]
  refine w_if (fun e => w_some ⟨rfl, ?_⟩) (fun e => w_rdI ml103 rfl (by omega) ((hT n h2 h5).2 s hs).2.2.1 (w_some ⟨rfl, ?_⟩))
  · show nI s = nI (tuG n k s)
    unfold tuG
    rw [if_pos ((iI_ev k1 k2).mp e)]
  · show nI (ovG n s) = nI (tuG n k s)
    unfold tuG
    rw [if_neg (fun h9 => e ((iI_ev k1 k2).mpr h9))]
def nmQ (z : ow_MS) (m : N5) (U : List Nat) (k : Int) (z1 : ow_MS) : Prop := (∃ (j : Nat) (F : List Nat), nfL m.1 F ∧ eqT m.1 U (List.replicate j (gNN m.1 - 1) ++ F) ∧ fmI z1 m.1 F ∧ z1.1 112 = iI (k + (j : Int)) ∧ F.length + j ≤ U.length) ∧ fr nmH z z1
theorem nmQ_tr {y y1 : ow_MS} {U : List Nat} {k : Int} (hf : fr nmH z y) (h : nmQ y m U k y1) : nmQ z m U k y1 := ⟨h.1, fr_tr hf h.2⟩
theorem xr_nmU {U : List Nat} {k : Int} (hT : tbG z) (hU : ∀ s, s ∈ U → s < gNN m.1) (hl : U.length ≤ 18) (hw : lnI z 109 108 (bsG m.1 U).flatten) : Te (fun K => qe_X13_normalise K (nI m.1) (iI k) z) (nmQ z m U k) := by
  have h2 := m.2.1
  have h5 := m.2.2
  have hUk : okT m.1 U := hU
  obtain ⟨j, F, f1, f2⟩ := nf_ex hUk
  have hR : okT m.1 (List.replicate j (gNN m.1 - 1)) := rp_ok
  have hD0 := dl_0 (m := m)
  have sl : F.length + j ≤ U.length := by
    have e := F_eq (m := m) (k := 0) (hT := hUk) (hF := f1.1) f2
    have a1 : gle (gF m 0 U hUk) (gD m (U.length : Int)) := by
      unfold gF
      have : gD m 0 = g1 m := rfl
      rw [this, g1_l]
      exact sup_le U
    rw [e] at a1
    have := (sup_F f1).mp a1
    omega
  refine w_monoE (te_and (xr_normalise (k := iI k) h2 h5 hT (bs_bv h2 h5 U hUk) (by unfold bsG; rw [List.length_map]; exact hl) hw (okT_a.mpr ⟨hR, f1.1⟩) (wt_D h2 h5 f1.2.1) (fun g hg => ?_) f2) (tp_nmU (κ := k) h2 h5 rfl hT hU hl hw)) (fun z1 ⟨⟨a1, a2⟩, a3⟩ => ⟨⟨j, F, f1, f2, ?_, ?_, sl⟩, a3.2⟩)
  · rcases List.mem_append.mp hg with h9 | h9
    · rw [(List.mem_replicate.mp h9).2]
      exact hD0
    · exact (f1.2.2 g h9).1
  · rw [List.filter_append, List.filter_eq_nil_iff.mpr (fun g hg => by rw [(List.mem_replicate.mp hg).2]; simp), List.nil_append, List.filter_eq_self.mpr (fun g hg => decide_eq_true (f1.2.2 g hg).2)] at a1
    exact a1
  · rw [List.countP_append, List.countP_eq_length.mpr (fun g hg => by rw [(List.mem_replicate.mp hg).2]; simp), List.countP_eq_zero.mpr (fun g hg => by have := (f1.2.2 g hg).2; simp [this]), List.length_replicate, Nat.add_zero] at a2
    rw [a2, nI_iI, iI_add]
theorem xr_cyc0 {S : List Nat} {κ : Int} {s0 : Nat} {U0 : List Nat} (hSU : S = s0 :: U0) (hT : tbG z) (hS : fmI z m.1 S) (hl : S.length ≤ 16) (hk : z.1 112 = iI κ) (k1 : -200 ≤ κ) (k2 : κ ≤ 200) : Te (fun K => qe_X13_cycle K (nI m.1) 0 z) (nmQ z m (U0 ++ [tuG m.1 κ s0]) κ) := by
  subst hSU
  have h2 := m.2.1
  have h5 := m.2.2
  generalize hn9 : m.1 = n at *
  have hl : U0.length + 1 ≤ 16 := hl
  have hN := nn_pos (n := n)
  have tF : ∀ {y : ow_MS}, fr nmH z y → tbG y := fun hf => tbG_fr hf (fun g hg => by unfold nmH at hg; omega) hT
  let F : Nat → Prop := fun g => g = 108 ∨ g = 109
  have toN : ∀ {y : ow_MS}, fr F z y → fr nmH z y := fun hf => fr_mono (fun g hg => by have hg : g = 108 ∨ g = 109 := hg; unfold nmH; omega) hf
  have sF : ∀ {y : ow_MS} {i s : Nat}, fr F z y → (s0 :: U0)[i]? = some s → y.2.1 114 i = nI s ∧ s < gNN n := fun hf hi => ⟨by rw [(hf 114 (by show ¬ (114 = 108 ∨ 114 = 109); omega)).2.1]; exact hS.1.2 _ _ hi, hS.2 _ (List.mem_of_getElem? hi)⟩
  have hszl : ∀ j, szL n (U0.take j) ≤ 10 * j := by
    intro j
    have h1 := bs_fl (n := n) (U0.take j)
    have h3 := (bl_len h2 h5 (bsG n (U0.take j)) (bs_bl h2 h5 (fun s hs => hS.2 s (List.mem_cons_of_mem _ (List.mem_of_mem_take hs))))).1
    unfold bsG at h3
    rw [List.length_map, List.length_take] at h3
    unfold bsG at h1
    omega
  have c3 : ∀ (d j : Nat) (y : ow_MS), j + d = U0.length → lnI y 109 108 (bsG n (U0.take j)).flatten → fr F z y → Tt (fun K i => q_X13_cycle K i 3 (nI n) 0 (nI (U0.length + 1)) (iI κ) (nI (j + 1)) 0 0 y) (nmQ z m (U0 ++ [tuG n κ s0]) κ) := by
    intro d
    induction d with
    | zero =>
      intro j y hj hw hf
      have hj : j = U0.length := by omega
      subst hj
      have hwl := hszl U0.length
      rw [List.take_length] at hw hwl
      refine u_X13_cycle_3 ?_; unfold qm_X13_cycle_3
      refine w_ifT rfl ?_
      refine u_X13_cycle_4 ?_; unfold qm_X13_cycle_4
      refine w_leT (by omega) (Nat.le_refl _) (w_ifT rfl (w_rdI (i := 0) ml114 rfl (by omega) (sF hf (i := 0) rfl).1 (w_cs1 (xr_turned h2 h5 (sF hf (i := 0) rfl).2 (tF (toN hf)) k1 k2) (fun v y1 ⟨e1, s2⟩ => ?_))))
      have e1 : y1 = y := e1
      have s2v : v = nI (tuG n κ s0) := s2
      have s1 := tu_lt (k := κ) h2 h5 (sF hf (i := 0) rfl).2
      subst e1
      rw [s2v]
      refine w_cs0 (tp_append h2 h5 s1 (tF (toN hf)) hw (by rw [bs_fl]; omega)) (fun y2 ⟨w2, f2⟩ => ?_)
      have hf2 : fr F z y2 := fr_tr hf (fr_mono (fun g hg => hg) f2)
      refine u_X13_cycle_5 ?_; unfold qm_X13_cycle_5
      rw [← bs_app] at w2
      rw [← hn9] at w2 ⊢
      refine w_cs0 (xr_nmU (tF (toN hf2)) (fun s hs => ?_) (by rw [List.length_append]; show U0.length + 1 ≤ 18; omega) w2) (fun y3 a5 => w_some (nmQ_tr (toN hf2) a5))
      rcases List.mem_append.mp hs with h9 | h9
      · rw [hn9]
        exact hS.2 s (List.mem_cons_of_mem _ h9)
      · rw [List.mem_singleton.mp h9, hn9]
        exact s1
    | succ d ih =>
      intro j y hj hw hf
      have hjl : j < U0.length := by omega
      have hwl := hszl j
      have hsj := sF hf (i := j + 1) (s := U0[j]) (by rw [List.getElem?_cons_succ]; exact List.getElem?_eq_getElem hjl)
      refine u_X13_cycle_3 ?_; unfold qm_X13_cycle_3
      refine w_ifT rfl ?_
      refine u_X13_cycle_4 ?_; unfold qm_X13_cycle_4
      refine w_leF (by omega) (by omega) (w_rdI ml114 rfl (by omega) hsj.1 (w_cs0 (tp_append h2 h5 hsj.2 (tF (toN hf)) hw (by rw [bs_fl]; omega)) (fun y2 ⟨w2, f2⟩ => ?_)))
      rw [← bs_app, show U0.take j ++ [U0[j]] = U0.take (j + 1) from by rw [List.take_succ, List.getElem?_eq_getElem hjl]; rfl] at w2
      rw [show nI (j + 1) + 1 = nI (j + 1 + 1) from nI_1 _]
      exact ih (j + 1) y2 (by omega) w2 (fr_tr hf (fr_mono (fun g hg => hg) f2))
  refine e_X13_cycle ?_
  refine u_X13_cycle_0 ?_; unfold qm_X13_cycle_0
  refine w_rdF hS.1.1 (w_rdF hk (w_wrF (w_ifT rfl ?_)))
  refine u_X13_cycle_1 ?_; unfold qm_X13_cycle_1
  refine w_ifT rfl ?_
  refine u_X13_cycle_2 ?_; unfold qm_X13_cycle_2
  exact c3 U0.length 0 _ (by omega) ⟨po_usF_at, fun i a hi => by simp [bsG] at hi⟩ (fr_F (Or.inr rfl))
theorem xr_cyc1 {S : List Nat} {κ : Int} {s0 : Nat} {U0 : List Nat} (hSU : S = U0 ++ [s0]) (hT : tbG z) (hS : fmI z m.1 S) (hl : S.length ≤ 16) (hk : z.1 112 = iI κ) (k1 : -200 ≤ κ) (k2 : κ ≤ 200) : Te (fun K => qe_X13_cycle K (nI m.1) 1 z) (nmQ z m (tuG m.1 κ s0 :: U0) κ) := by
  subst hSU
  have h2 := m.2.1
  have h5 := m.2.2
  generalize hn9 : m.1 = n at *
  have hSl : (U0 ++ [s0]).length = U0.length + 1 := by rw [List.length_append]; rfl
  rw [hSl] at hl
  have hN := nn_pos (n := n)
  have tF : ∀ {y : ow_MS}, fr nmH z y → tbG y := fun hf => tbG_fr hf (fun g hg => by unfold nmH at hg; omega) hT
  let F : Nat → Prop := fun g => g = 108 ∨ g = 109
  have toN : ∀ {y : ow_MS}, fr F z y → fr nmH z y := fun hf => fr_mono (fun g hg => by have hg : g = 108 ∨ g = 109 := hg; unfold nmH; omega) hf
  have sF : ∀ {y : ow_MS} {i s : Nat}, fr F z y → (U0 ++ [s0])[i]? = some s → y.2.1 114 i = nI s ∧ s < gNN n := fun hf hi => ⟨by rw [(hf 114 (by show ¬ (114 = 108 ∨ 114 = 109); omega)).2.1]; exact hS.1.2 _ _ hi, hS.2 _ (List.mem_of_getElem? hi)⟩
  have c3 : ∀ (d j s' : Nat) (y : ow_MS), s' < gNN n → s' = tuG n κ s0 → j + d = U0.length → lnI y 109 108 (bsG n (s' :: U0.take j)).flatten → fr F z y → Tt (fun K i => q_X13_cycle K i 3 (nI n) 1 (nI (U0.length + 1)) (iI κ) (nI j) 0 0 y) (nmQ z m (tuG n κ s0 :: U0) κ) := by
    intro d
    induction d with
    | zero =>
      intro j s' y hs' hsz hj hw hf
      have hj : j = U0.length := by omega
      subst hj
      rw [List.take_length] at hw
      refine u_X13_cycle_3 ?_; unfold qm_X13_cycle_3
      rw [show nI (U0.length + 1) - 1 = nI U0.length from (pk_sub (a := U0.length + 1) (b := 1) (by omega)).trans (by rw [Nat.add_sub_cancel])]
      refine w_ifF (by decide) ?_
      refine u_X13_cycle_4 ?_; unfold qm_X13_cycle_4
      refine w_leT (by omega) (Nat.le_refl _) (w_ifF (by decide) ?_)
      refine u_X13_cycle_5 ?_; unfold qm_X13_cycle_5
      subst hsz
      rw [← hn9] at hw ⊢
      refine w_cs0 (xr_nmU (tF (toN hf)) (fun s hs => ?_) (by rw [List.length_cons]; omega) hw) (fun y3 a5 => w_some (nmQ_tr (toN hf) a5))
      rcases List.mem_cons.mp hs with h9 | h9
      · rw [h9, hn9]
        exact hs'
      · rw [hn9]
        exact hS.2 s (List.mem_append_left _ h9)
    | succ d ih =>
      intro j s' y hs' hsz hj hw hf
      have hjl : j < U0.length := by omega
      have hsj := sF hf (i := j) (s := U0[j]) (by rw [List.getElem?_append_left hjl]; exact List.getElem?_eq_getElem hjl)
      have hwl : (bsG n (s' :: U0.take j)).flatten.length ≤ 200 := by
        have h3 := (bl_len h2 h5 (bsG n (s' :: U0.take j)) (bs_bl h2 h5 (fun s hs => by
          rcases List.mem_cons.mp hs with h9 | h9
          · rw [h9]; exact hs'
          · exact hS.2 s (List.mem_append_left _ (List.mem_of_mem_take h9))))).1
        have h4 : (bsG n (s' :: U0.take j)).length ≤ U0.length + 1 := by
          unfold bsG
          rw [List.length_map, List.length_cons, List.length_take]
          omega
        omega
      refine u_X13_cycle_3 ?_; unfold qm_X13_cycle_3
      rw [show nI (U0.length + 1) - 1 = nI U0.length from (pk_sub (a := U0.length + 1) (b := 1) (by omega)).trans (by rw [Nat.add_sub_cancel])]
      refine w_ifF (by decide) ?_
      refine u_X13_cycle_4 ?_; unfold qm_X13_cycle_4
      refine w_leF (by omega) (by omega) (w_rdI ml114 rfl (by omega) hsj.1 (w_cs0 (tp_append h2 h5 hsj.2 (tF (toN hf)) hw (by omega)) (fun y2 ⟨w2, f2⟩ => ?_)))
      rw [← bs_app, show s' :: U0.take j ++ [U0[j]] = s' :: U0.take (j + 1) from by rw [List.take_succ, List.getElem?_eq_getElem hjl]; rfl] at w2
      rw [show nI j + 1 = nI (j + 1) from nI_1 _]
      exact ih (j + 1) s' y2 hs' hsz (by omega) w2 (fr_tr hf (fr_mono (fun g hg => hg) f2))
  have hlast : ∀ {y : ow_MS}, fr F z y → y.2.1 114 U0.length = nI s0 ∧ s0 < gNN n := fun hf => sF hf (by rw [List.getElem?_append_right (Nat.le_refl _), Nat.sub_self]; rfl)
  have hf0 : fr F z (usF z 109 0) := fr_F (Or.inr rfl)
  have h113 : z.1 113 = nI (U0.length + 1) := by rw [hS.1.1, hSl]
  refine e_X13_cycle ?_
  refine u_X13_cycle_0 ?_; unfold qm_X13_cycle_0
  refine w_rdF h113 (w_rdF hk (w_wrF (w_ifF (by decide) ?_)))
  rw [show nI (U0.length + 1) - 1 = nI U0.length from (pk_sub (a := U0.length + 1) (b := 1) (by omega)).trans (by rw [Nat.add_sub_cancel])]
  refine w_rdI ml114 rfl (by omega) (hlast hf0).1 (w_cs1 (xr_turned h2 h5 (hlast hf0).2 (tF (toN hf0)) k1 k2) (fun v y1 ⟨e1, s2⟩ => ?_))
  have e1 : y1 = usF z 109 0 := e1
  have s2v : v = nI (tuG n κ s0) := s2
  have s1 := tu_lt (k := κ) h2 h5 (hlast hf0).2
  subst e1
  rw [s2v]
  refine w_cs0 (tp_append (L := []) h2 h5 s1 (tF (toN hf0)) ⟨po_usF_at, fun i a hi => by simp at hi⟩ (by decide)) (fun y2 ⟨w2, f2⟩ => ?_)
  refine u_X13_cycle_1 ?_; unfold qm_X13_cycle_1
  refine w_ifF (by decide) ?_
  refine u_X13_cycle_2 ?_; unfold qm_X13_cycle_2
  refine c3 U0.length 0 (tuG n κ s0) y2 s1 rfl (by omega) ?_ (fr_tr hf0 (fr_mono (fun g hg => hg) f2))
  rw [List.take_zero]
  have : (bsG n [tuG n κ s0]).flatten = [] ++ ltG n (tuG n κ s0) := by
    unfold bsG
    simp
  rw [this]
  exact w2
end XS1
end
section
/-! 99zzzzzzzzzzzzzzzn.xsm2 -/
/-! summit: the reference comes to the summit -/
section XS2
variable {z : ow_MS} {m : N5}
/-- no conjugate has more deltas in front; none is shorter -/
def nrs (a : Gn m) (k : Int) : Prop := ∀ x, ¬ rsd k (cnj x a)
def nls (a : Gn m) (s : Int) : Prop := ∀ x, ¬ gle (cnj x a) (gD m (s - 1))
def cqS (a : Gn m) (k : Int) (t : Nat) (b : Gn m) : Prop := ∃ s : Nat → Gn m, gle (gD m k) (s 0) ∧ (∀ j, j < t → ∃ i, isM (gm (s j) (gi (gD m k))) (gD m 1) i ∧ s (j + 1) = cnj i (s j)) ∧ (∀ j, j ≤ t → ¬ rsd k (s j)) ∧ s t = b ∧ ∀ j, j ≤ t → ∃ x, s j = cnj x a
def dqS (a : Gn m) (S : Int) (t : Nat) (b : Gn m) : Prop := ∃ s : Nat → Gn m, gle (s 0) (gD m S) ∧ (∀ j, j < t → ∃ i, isM (gm (gi (s j)) (gD m S)) (gD m 1) (gm (gi i) (gD m 1)) ∧ s (j + 1) = gm i (gm (s j) (gi i))) ∧ (∀ j, j ≤ t → ¬ gle (s j) (gD m (S - 1))) ∧ s t = b ∧ ∀ j, j ≤ t → ∃ x, s j = cnj x a
theorem cq_0 {a b : Gn m} {k : Int} (h1 : gle (gD m k) b) (h2 : ¬ rsd k b) (h3 : ∃ x, b = cnj x a) : cqS a k 0 b := ⟨fun _ => b, h1, fun j hj => absurd hj (Nat.not_lt_zero _), fun _ _ => h2, rfl, fun _ _ => h3⟩
theorem cq_s {a b i : Gn m} {k : Int} {t : Nat} (h : cqS a k t b) (hi : isM (gm b (gi (gD m k))) (gD m 1) i) (h2 : ¬ rsd k (cnj i b)) : cqS a k (t + 1) (cnj i b) := by
  obtain ⟨s, s1, s2, s3, s4, s5⟩ := h
  have e0 : ∀ j, j ≤ t → (fun j => if j ≤ t then s j else cnj i b) j = s j := fun j hj => if_pos hj
  have e1 : (fun j => if j ≤ t then s j else cnj i b) (t + 1) = cnj i b := if_neg (by omega)
  refine ⟨fun j => if j ≤ t then s j else cnj i b, ?_, fun j hj => ?_, fun j hj => ?_, e1, fun j hj => ?_⟩
  · rw [e0 0 (Nat.zero_le _)]
    exact s1
  · rw [e0 j (by omega)]
    by_cases c : j = t
    · rw [c, e1, s4]
      exact ⟨i, hi, rfl⟩
    · rw [e0 (j + 1) (by omega)]
      exact s2 j (by omega)
  · by_cases c : j = t + 1
    · rw [c, e1]
      exact h2
    · rw [e0 j (by omega)]
      exact s3 j (by omega)
  · by_cases c : j = t + 1
    · obtain ⟨x, hx⟩ := s5 t (Nat.le_refl _)
      refine ⟨gm x i, ?_⟩
      rw [c, e1, cnj_m, ← hx, s4]
    · rw [e0 j (by omega)]
      exact s5 j (by omega)
theorem cnj_all {a b x : Gn m} (h : b = cnj x a) (y : Gn m) : cnj y a = cnj (gm (gi x) y) b := by
  rw [h, ← cnj_m, gi_cr]
theorem cq_end {a b : Gn m} {k : Int} (h : cqS a k (szD m) b) : nrs a k := by
  obtain ⟨s, s1, s2, s3, s4, s5⟩ := h
  obtain ⟨x0, e0⟩ := s5 0 (Nat.zero_le _)
  intro x hx
  rw [cnj_all e0 x] at hx
  exact idle_c s1 s2 s3 _ hx
theorem dq_0 {a b : Gn m} {S : Int} (h1 : gle b (gD m S)) (h2 : ¬ gle b (gD m (S - 1))) (h3 : ∃ x, b = cnj x a) : dqS a S 0 b := ⟨fun _ => b, h1, fun j hj => absurd hj (Nat.not_lt_zero _), fun _ _ => h2, rfl, fun _ _ => h3⟩
theorem dq_s {a b i : Gn m} {S : Int} {t : Nat} (h : dqS a S t b) (hi : isM (gm (gi b) (gD m S)) (gD m 1) (gm (gi i) (gD m 1))) (h2 : ¬ gle (gm i (gm b (gi i))) (gD m (S - 1))) : dqS a S (t + 1) (gm i (gm b (gi i))) := by
  obtain ⟨s, s1, s2, s3, s4, s5⟩ := h
  have e0 : ∀ j, j ≤ t → (fun j => if j ≤ t then s j else gm i (gm b (gi i))) j = s j := fun j hj => if_pos hj
  have e1 : (fun j => if j ≤ t then s j else gm i (gm b (gi i))) (t + 1) = gm i (gm b (gi i)) := if_neg (by omega)
  refine ⟨fun j => if j ≤ t then s j else gm i (gm b (gi i)), ?_, fun j hj => ?_, fun j hj => ?_, e1, fun j hj => ?_⟩
  · rw [e0 0 (Nat.zero_le _)]
    exact s1
  · rw [e0 j (by omega)]
    by_cases c : j = t
    · rw [c, e1, s4]
      exact ⟨i, hi, rfl⟩
    · rw [e0 (j + 1) (by omega)]
      exact s2 j (by omega)
  · by_cases c : j = t + 1
    · rw [c, e1]
      exact h2
    · rw [e0 j (by omega)]
      exact s3 j (by omega)
  · by_cases c : j = t + 1
    · obtain ⟨x, hx⟩ := s5 t (Nat.le_refl _)
      refine ⟨gm x (gi i), ?_⟩
      rw [c, e1, cnj_m, ← hx, s4]
      unfold cnj
      rw [gi_i]
    · rw [e0 j (by omega)]
      exact s5 j (by omega)
theorem dq_end {a b : Gn m} {S : Int} (h : dqS a S (szD m) b) : nls a S := by
  obtain ⟨s, s1, s2, s3, s4, s5⟩ := h
  obtain ⟨x0, e0⟩ := s5 0 (Nat.zero_le _)
  intro x hx
  rw [cnj_all e0 x] at hx
  exact idle_d s1 s2 s3 _ hx
theorem glen_c (x a : Gn m) : glen (cnj x a) = glen a := by
  unfold cnj
  rw [glen_m, glen_m, glen_i]
  omega
theorem nrs_n {a : Gn m} {k : Int} {h : okT m.1 []} (e : ∃ x, gF m k [] h = cnj x a) : nrs a k ∧ nls a k := by
  obtain ⟨x, e⟩ := e
  have l := congrArg glen e
  unfold gF at l
  rw [glen_c, glen_m, glen_D, gL_nil, glen_1, Int.add_zero] at l
  have s1 := sz_D1 (m := m)
  constructor
  · intro y hy
    have := (gle_ln hy).1
    rw [glen_D, glen_c, ← l, Int.add_mul, Int.one_mul] at this
    omega
  · intro y hy
    have := (gle_ln hy).1
    rw [glen_D, glen_c, ← l, Int.sub_mul, Int.one_mul] at this
    omega
/-- a form at the summit of a braid's class -/
def smF (z1 : ow_MS) (m : N5) (a : Gn m) (k : Int) (F : List Nat) : Prop := fmI z1 m.1 F ∧ z1.1 112 = iI k ∧ F.length ≤ 16 ∧ -16 ≤ k ∧ k + (F.length : Int) ≤ 16 ∧ nfL m.1 F ∧ (∃ h x, gF m k F h = cnj x a) ∧ nrs a k ∧ nls a (k + (F.length : Int))
theorem xr_summitOf {b l : Nat} {w : Nat → Nat × Bool} {a : Gn m} (hb : b < 20) (hh : hBr z b m.1 l) (hT : tbG z) (hwd : ∀ i, i < l → (w i).1 + 1 < m.1 ∧ z.2.1 94 (16 * b + i) = lx9 (w i)) (ha : ∃ h, a = gF m (foT m.1 w l).2 (foT m.1 w l).1 h) (hw1 : -16 ≤ (foT m.1 w l).2) (hw2 : (foT m.1 w l).2 + ((foT m.1 w l).1.length : Int) ≤ 16) (hw3 : (foT m.1 w l).1.length ≤ 16) : Te (fun K => qe_X13_summitOf K (nI b) z) (fun z1 => (∃ k F, smF z1 m a k F) ∧ fr nmH z z1) := by
  have h2 := hh.1
  have h5 := hh.2.1
  have hN := nn_pos (n := m.1)
  obtain ⟨-, -, -, -, hm1, hm2⟩ := f_fiv h2 h5 (a := 0) (by omega)
  let Q : ow_MS → Prop := fun z1 => (∃ k F, smF z1 m a k F) ∧ fr nmH z z1
  have tF : ∀ {y : ow_MS}, fr nmH z y → tbG y := fun hf => tbG_fr hf (fun g hg => by unfold nmH at hg; omega) hT
  have hmo : szG m.1 (gNN m.1 - 1) = szD m := rfl
  rw [hmo] at hm1 hm2
  have c4 : ∀ (M d t : Nat) (F : List Nat) (k : Int) (y : ow_MS) (hF : okT m.1 F), F.length ≤ M → t + d = szD m → fmI y m.1 F → y.1 112 = iI k → F.length ≤ 16 → -16 ≤ k → k + (F.length : Int) ≤ 16 → nfL m.1 F → dqS a (k + (F.length : Int)) t (gF m k F hF) → nrs a k → fr nmH z y → Tt (fun K i => q_X13_summitOf K i 4 (nI b) (nI m.1) (nI (szD m)) (nI t) 0 0 y) Q := by
    intro M
    induction M using Nat.strongRecOn with
    | ind M ihM =>
    intro d
    induction d with
    | zero =>
      intro t F k y hF hM ht hS hk hl k1 k2 hn hq hr hf
      have ht : t = szD m := by omega
      subst ht
      have := hq
      obtain ⟨s, s1, s2, s3, s4, s5⟩ := this
      obtain ⟨x, hx⟩ := s5 _ (Nat.le_refl _)
      refine u_X13_summitOf_4 ?_; unfold qm_X13_summitOf_4
      exact w_leT (by omega) (by omega) (w_some ⟨⟨k, F, hS, hk, hl, k1, k2, hn, ⟨hF, x, s4.symm.trans hx⟩, hr, dq_end hq⟩, hf⟩)
    | succ d ih =>
      intro t F k y hF hM ht hS hk hl k1 k2 hn hq hr hf
      have hcx : ∃ x, gF m k F hF = cnj x a := by
        obtain ⟨s, s1, s2, s3, s4, s5⟩ := hq
        obtain ⟨x, hx⟩ := s5 _ (Nat.le_refl _)
        exact ⟨x, s4.symm.trans hx⟩
      refine u_X13_summitOf_4 ?_; unfold qm_X13_summitOf_4
      refine w_leF (by omega) (by omega) (w_rdF hS.1.1 (w_le (b := 0) (by omega) (by omega) (fun h0 => ?_) (fun hpos => ?_)))
      · have e0 : F = [] := List.eq_nil_of_length_eq_zero (by omega)
        subst e0
        have := nrs_n hcx
        refine w_some ⟨⟨k, [], hS, hk, hl, k1, k2, hn, ⟨hF, hcx⟩, hr, ?_⟩, hf⟩
        show nls a (k + 0)
        rw [Int.add_zero]
        exact this.2
      · obtain ⟨U0, s0, eF⟩ : ∃ U0 s0, F = U0 ++ [s0] := by
          rcases List.eq_nil_or_concat F with h9 | ⟨G, c, h9⟩
          · rw [h9] at hpos
            exact absurd hpos (by decide)
          · exact ⟨G, c, by rw [h9, List.concat_eq_append]⟩
        refine w_rdF hk (w_rdF hS.1.1 (w_cs0 (xr_cyc1 eF (tF hf) hS hl hk (by omega) (by omega)) (fun y1 ⟨⟨j, F', f1, f2, f3, f4, f5⟩, f6⟩ => ?_)))
        subst eF
        obtain ⟨q1, q2, q3, q4⟩ := dcy_F (k := k) (h := hF) hn
        have e1 := F_eq (m := m) (k := k) (hT := q2) (hF := f1.1) f2
        rw [e1] at q4
        have len1 : (U0 ++ [s0]).length = U0.length + 1 := by rw [List.length_append]; rfl
        rw [List.length_cons] at f5
        rw [len1] at hM hl k2 hq
        have hcx' : ∃ x, gF m (k + (j : Int)) F' f1.1 = cnj x a := by
          obtain ⟨x, hx⟩ := hcx
          refine ⟨gm x (gi (gL m [s0] q1)), ?_⟩
          rw [cnj_m, ← hx, ← q4]
          unfold cnj
          rw [gi_i]
        have j0 : j = 0 := by
          refine Classical.byContradiction (fun hne => ?_)
          obtain ⟨x, hx⟩ := hcx'
          refine hr x ?_
          rw [← hx]
          exact (inf_F f1).mpr (by omega)
        subst j0
        have ek : k + ((0 : Nat) : Int) = k := Int.add_zero k
        rw [ek] at q4 f4 hcx'
        refine w_rdF f4 (w_rdF f3.1.1 (w_if (fun hle => ?_) (fun hgt => ?_)))
        · rw [len1, nI_iI, nI_iI, iI_add, iI_add, iI_le (by omega) (by omega) (by omega) (by omega)] at hle
          have el : F'.length = U0.length + 1 := by omega
          refine u_X13_summitOf_5 ?_; unfold qm_X13_summitOf_5
          rw [nI_1]
          refine ih (t + 1) F' k y1 f1.1 (by omega) (by omega) f3 f4 (by omega) k1 (by omega) f1 ?_ hr (fr_tr hf f6)
          rw [el, ← q4]
          refine dq_s hq q3 ?_
          rw [q4]
          intro h9
          have := (sup_F f1).mp h9
          omega
        · rw [len1, nI_iI, nI_iI, iI_add, iI_add, iI_le (by omega) (by omega) (by omega) (by omega)] at hgt
          refine u_X13_summitOf_5 ?_; unfold qm_X13_summitOf_5
          refine ihM F'.length (by omega) (szD m) 0 F' k y1 f1.1 (Nat.le_refl _) (by omega) f3 f4 (by omega) k1 (by omega) f1 (dq_0 ((sup_F f1).mpr (Int.le_refl _)) (fun h9 => ?_) hcx') hr (fr_tr hf f6)
          have := (sup_F f1).mp h9
          omega
  have c3 : ∀ (x4 : Int32) (F : List Nat) (k : Int) (y : ow_MS) (hF : okT m.1 F), fmI y m.1 F → y.1 112 = iI k → F.length ≤ 16 → -16 ≤ k → k + (F.length : Int) ≤ 16 → nfL m.1 F → (∃ x, gF m k F hF = cnj x a) → nrs a k → fr nmH z y → Tt (fun K i => q_X13_summitOf K i 3 (nI b) (nI m.1) (nI (szD m)) x4 0 0 y) Q := by
    intro x4 F k y hF hS hk hl k1 k2 hn hx hr hf
    refine u_X13_summitOf_3 ?_; unfold qm_X13_summitOf_3
    refine c4 F.length (szD m) 0 F k y hF (Nat.le_refl _) (by omega) hS hk hl k1 k2 hn (dq_0 ((sup_F hn).mpr (Int.le_refl _)) (fun h9 => ?_) hx) hr hf
    have := (sup_F hn).mp h9
    omega
  have c1 : ∀ (M d t : Nat) (F : List Nat) (k : Int) (y : ow_MS) (hF : okT m.1 F), (16 - k).toNat ≤ M → t + d = szD m → fmI y m.1 F → y.1 112 = iI k → F.length ≤ 16 → -16 ≤ k → k + (F.length : Int) ≤ 16 → nfL m.1 F → cqS a k t (gF m k F hF) → fr nmH z y → Tt (fun K i => q_X13_summitOf K i 1 (nI b) (nI m.1) (nI (szD m)) (nI t) 0 0 y) Q := by
    intro M
    induction M using Nat.strongRecOn with
    | ind M ihM =>
    intro d
    induction d with
    | zero =>
      intro t F k y hF hM ht hS hk hl k1 k2 hn hq hf
      have ht : t = szD m := by omega
      subst ht
      have := hq
      obtain ⟨s, s1, s2, s3, s4, s5⟩ := this
      obtain ⟨x, hx⟩ := s5 _ (Nat.le_refl _)
      refine u_X13_summitOf_1 ?_; unfold qm_X13_summitOf_1
      exact w_leT (by omega) (by omega) (c3 _ F k y hF hS hk hl k1 k2 hn ⟨x, s4.symm.trans hx⟩ (cq_end hq) hf)
    | succ d ih =>
      intro t F k y hF hM ht hS hk hl k1 k2 hn hq hf
      have hcx : ∃ x, gF m k F hF = cnj x a := by
        obtain ⟨s, s1, s2, s3, s4, s5⟩ := hq
        obtain ⟨x, hx⟩ := s5 _ (Nat.le_refl _)
        exact ⟨x, s4.symm.trans hx⟩
      refine u_X13_summitOf_1 ?_; unfold qm_X13_summitOf_1
      refine w_leF (by omega) (by omega) (w_rdF hS.1.1 (w_le (b := 0) (by omega) (by omega) (fun h0 => ?_) (fun hpos => ?_)))
      · have e0 : F = [] := List.eq_nil_of_length_eq_zero (by omega)
        subst e0
        exact c3 _ [] k y hF hS hk hl k1 k2 hn hcx (nrs_n hcx).1 hf
      · obtain ⟨s0, U0, eF⟩ : ∃ s0 U0, F = s0 :: U0 := by
          cases F with
          | nil => exact absurd hpos (by decide)
          | cons c G => exact ⟨c, G, rfl⟩
        refine w_rdF hk (w_cs0 (xr_cyc0 eF (tF hf) hS hl hk (by omega) (by omega)) (fun y1 ⟨⟨j, F', f1, f2, f3, f4, f5⟩, f6⟩ => ?_))
        subst eF
        obtain ⟨q1, q2, q3, q4⟩ := cyc_F (k := k) (h := hF) hn
        have e1 := F_eq (m := m) (k := k) (hT := q2) (hF := f1.1) f2
        rw [e1] at q4
        rw [List.length_append, List.length_singleton] at f5
        rw [List.length_cons] at hl k2
        have hcx' : ∃ x, gF m (k + (j : Int)) F' f1.1 = cnj x a := by
          obtain ⟨x, hx⟩ := hcx
          refine ⟨gm x (gL m [tuG m.1 k s0] q1), ?_⟩
          rw [cnj_m, ← hx, ← q4]
        refine w_rdF f4 (w_if (fun hle => ?_) (fun hgt => ?_))
        · rw [iI_le (by omega) (by omega) (by omega) (by omega)] at hle
          have j0 : j = 0 := by omega
          subst j0
          have ek : k + ((0 : Nat) : Int) = k := Int.add_zero k
          rw [ek] at q4 f4
          refine u_X13_summitOf_2 ?_; unfold qm_X13_summitOf_2
          rw [nI_1]
          refine ih (t + 1) F' k y1 f1.1 (by omega) (by omega) f3 f4 (by omega) k1 (by omega) f1 ?_ (fr_tr hf f6)
          rw [← q4]
          refine cq_s hq q3 ?_
          rw [q4]
          intro h9
          have := (inf_F f1).mp h9
          omega
        · rw [iI_le (by omega) (by omega) (by omega) (by omega)] at hgt
          refine u_X13_summitOf_2 ?_; unfold qm_X13_summitOf_2
          refine ihM (16 - (k + (j : Int))).toNat (by omega) (szD m) 0 F' (k + (j : Int)) y1 f1.1 (Nat.le_refl _) (by omega) f3 f4 (by omega) (by omega) (by omega) f1 (cq_0 ((inf_F f1).mpr (Int.le_refl _)) (fun h9 => ?_) hcx') (fr_tr hf f6)
          have := (inf_F f1).mp h9
          omega
  obtain ⟨h0, ea⟩ := ha
  obtain ⟨j, F, f1, f2⟩ := nf_ex h0
  have e1 := F_eq (m := m) (k := (foT m.1 w l).2) (hT := h0) (hF := f1.1) f2
  have sl : F.length + j ≤ (foT m.1 w l).1.length := by
    have e := F_eq (m := m) (k := 0) (hT := h0) (hF := f1.1) f2
    have a1 : gle (gF m 0 (foT m.1 w l).1 h0) (gD m ((foT m.1 w l).1.length : Int)) := by
      unfold gF
      have : gD m 0 = g1 m := rfl
      rw [this, g1_l]
      exact sup_le _
    rw [e] at a1
    have := (sup_F f1).mp a1
    omega
  refine e_X13_summitOf ?_
  refine u_X13_summitOf_0 ?_; unfold qm_X13_summitOf_0
  refine w_cs0 (te_and (tp_formOf hb hh hT) (xr_formOf hb hh hT hwd f1 f2)) (fun y ⟨⟨_, f9⟩, u1, u2⟩ => ?_)
  have e96 : y.2.1 96 b = nI m.1 := by rw [(f9 96 (by unfold nmH; omega)).2.1]; exact hh.2.2.2.1
  have hTy := (tF f9) m.1 h2 h5
  have hTd := (hTy.2 (gNN m.1 - 1) (by omega)).1
  rw [hmo] at hTd
  refine w_rdI ml96 rfl (by omega) e96 (w_rdI ml97 rfl (by omega) hTy.1 (w_rdI (i := 120 * m.1 + (gNN m.1 - 1)) ml100 (by rw [ix120, show nI (120 * m.1 + gNN m.1) - 1 = nI (120 * m.1 + gNN m.1 - 1) from pk_sub (b := 1) (by omega)]; congr 1; omega) (by omega) hTd ?_))
  refine c1 (16 - ((foT m.1 w l).2 + (j : Int))).toNat (szD m) 0 F ((foT m.1 w l).2 + (j : Int)) y f1.1 (Nat.le_refl _) (by omega) u1 u2 (by omega) (by omega) (by omega) f1 (cq_0 ((inf_F f1).mpr (Int.le_refl _)) (fun h9 => ?_) ⟨g1 m, ?_⟩) f9
  · have := (inf_F f1).mp h9
    omega
  · rw [cnj_1, ea, e1]
end XS2
end
section
/-! 99zzzzzzzzzzzzzzzo.xsm3 -/
/-! summit: the reference finds the whole set -/
section XS3
variable {z : ow_MS} {m : N5}
def sss (a : Gn m) (k : Int) (R : Nat) (F : List Nat) : Prop := nfL m.1 F ∧ F.length = R ∧ ∃ h x, gF m k F h = cnj x a
def afL (y : ow_MS) (n : Nat) (Ls : List (List Nat)) (k : Int) : Prop := y.1 116 = nI Ls.length ∧ ∀ i S, Ls[i]? = some S → frwI y 115 (40 * i) n S k
theorem afL_fr {P : Nat → Prop} {y y1 : ow_MS} {n : Nat} {Ls : List (List Nat)} {k : Int} (hf : fr P y y1) (h1 : ¬ P 115) (h2 : ¬ P 116) (h : afL y n Ls k) : afL y1 n Ls k := ⟨by rw [(hf 116 h2).1]; exact h.1, fun i S hi => frwI_fr hf h1 (h.2 i S hi)⟩
theorem xr_isThere {n r : Nat} {S : List Nat} {Ls : List (List Nat)} {k k2 : Int} (hr : r = 117 ∨ r = 118) (hF : Ls.length ≤ 200) (hA : afL z n Ls k) (hL : ∀ F, F ∈ Ls → F.length ≤ 38) (hS : frwI z r 0 n S k2) (hl : S.length ≤ 38) (b1 : -100 ≤ k) (b2 : k ≤ 100) (b3 : -100 ≤ k2) (b4 : k2 ≤ 100) : Te (fun K => qe_X13_isThere K r z) (fun o => o.2 = z ∧ (o.1 = 1 ∧ k2 = k ∧ S ∈ Ls ∨ o.1 = 0 ∧ ¬ (k2 = k ∧ S ∈ Ls))) := by
  have hrl : (mX.2 r).2.1 = 40 := by
    rcases hr with rfl | rfl
    · exact ml117
    · exact ml118
  let Q : Int32 × ow_MS → Prop := fun o => o.2 = z ∧ (o.1 = 1 ∧ k2 = k ∧ S ∈ Ls ∨ o.1 = 0 ∧ ¬ (k2 = k ∧ S ∈ Ls))
  have fin1 : ∀ (i : Nat), (k2 = k ∧ S ∈ Ls) → Tt (fun K t => q_X13_isThere K t 1 1 (nI i) r z) Q := by
    intro i h
    refine u_X13_isThere_1 ?_; unfold qm_X13_isThere_1
    exact w_rdF hA.1 (w_if (fun _ => w_okZ (Or.inr rfl) (w_some ⟨rfl, Or.inl ⟨rfl, h⟩⟩)) (fun _ => w_ifF (by decide) (w_okZ (Or.inr rfl) (w_some ⟨rfl, Or.inl ⟨rfl, h⟩⟩))))
  have key : ∀ (d i : Nat), i + d = Ls.length → (∀ j, j < i → ¬ (k2 = k ∧ Ls[j]? = some S)) → Tt (fun K t => q_X13_isThere K t 1 0 (nI i) r z) Q := by
    intro d
    induction d with
    | zero =>
      intro i hi hx
      refine u_X13_isThere_1 ?_; unfold qm_X13_isThere_1
      refine w_rdF hA.1 (w_leT (by omega) (by omega) (w_okZ (Or.inl rfl) (w_some ⟨rfl, Or.inr ⟨rfl, fun ⟨e1, e2⟩ => ?_⟩⟩)))
      obtain ⟨j, hj⟩ := List.getElem?_of_mem e2
      have := (List.getElem?_eq_some_iff.mp hj).1
      exact hx j (by omega) ⟨e1, hj⟩
    | succ d ih =>
      intro i hi hx
      have hil : i < Ls.length := by omega
      have e9 : Ls[i]? = some Ls[i] := List.getElem?_eq_getElem hil
      have hlen := hL _ (List.getElem_mem hil)
      refine u_X13_isThere_1 ?_; unfold qm_X13_isThere_1
      rw [show (40 : Int32) * nI i = nI (40 * i) from pk_mul 40 i, nI_1]
      refine w_rdF hA.1 (w_leF (by omega) (by omega) (w_ifT rfl (w_cs1 (xr_isForm (i := 0) (j := 40 * i) hrl ml115 (by omega) (by omega) (by omega) (by omega) hS (hA.2 i _ e9)) (fun v y1 ⟨e1, e2⟩ => ?_))))
      have e1 : y1 = z := e1
      subst e1
      rcases e2 with ⟨v1, v2, v3⟩ | ⟨v1, v2⟩
      · have v1 : v = 1 := v1
        rw [v1]
        exact fin1 (i + 1) ⟨(iI_eq (by omega) (by omega) (by omega) (by omega)).mp v2, by rw [v3]; exact List.getElem_mem hil⟩
      · have v1 : v = 0 := v1
        rw [v1]
        refine ih (i + 1) (by omega) (fun j hj h9 => ?_)
        by_cases ej : j = i
        · rw [ej, e9] at h9
          exact v2 ⟨by rw [h9.1], (Option.some.inj h9.2).symm⟩
        · exact hx j (by omega) h9
  refine e_X13_isThere ?_
  refine u_X13_isThere_0 ?_; unfold qm_X13_isThere_0
  exact key Ls.length 0 (by omega) (fun j hj => absurd hj (Nat.not_lt_zero _))
def cloS9 (m : N5) (k : Int) (R : Nat) (Ls : List (List Nat)) (i s : Nat) : Prop := ∀ F h, Ls[i]? = some F → ∀ t (ht : okT m.1 [t]), 1 ≤ t → t < s → t < gNN m.1 → ∀ G hG, nfL m.1 G → G.length = R → gF m k G hG = cnj (gL m [t] ht) (gF m k F h) → G ∈ Ls
theorem clo_m {k : Int} {R : Nat} {Ls : List (List Nat)} {i s : Nat} {G : List Nat} (hi : i < Ls.length) (h : cloS9 m k R Ls i s) : cloS9 m k R (Ls ++ [G]) i s := fun F hF e t ht t1 t2 t3 G' hG g1 g2 g3 => by
  rw [List.getElem?_append_left hi] at e
  exact List.mem_append_left _ (h F hF e t ht t1 t2 t3 G' hG g1 g2 g3)
/-- what is closed is all -/
theorem clo_all {a : Gn m} {k : Int} {R : Nat} {Ls : List (List Nat)} (hr : nrs a k) (hu : nls a (k + (R : Int))) (h0 : ∃ F, F ∈ Ls) (hs : ∀ F, F ∈ Ls → sss a k R F) (hc : ∀ i, i < Ls.length → cloS9 m k R Ls i (gNN m.1)) (F : List Nat) (hF : sss a k R F) : F ∈ Ls := by
  obtain ⟨F0, m0⟩ := h0
  obtain ⟨n0, l0, h0, x0, e0⟩ := hs F0 m0
  obtain ⟨n1, l1, h1, x1, e1⟩ := hF
  have k1 := sss_all (m := m) (k := k) (S := k + (R : Int)) (C := fun b => ∃ G h, G ∈ Ls ∧ b = gF m k G h) (fun b t ht ⟨G, hG, mG, eG⟩ t1 t0 lo up => ?_) (b := gF m k F0 h0) ⟨F0, h0, m0, rfl⟩ ((inf_F n0).mpr (Int.le_refl _)) ((sup_F n0).mpr (by omega)) (x := gm (gi x0) x1) ?_ ?_
  · obtain ⟨G, hG, mG, eG⟩ := k1
    rw [e0, ← cnj_all rfl x1, ← e1] at eG
    rw [(F_uni n1 (hs G mG).1 eG).2]
    exact mG
  · obtain ⟨k', G', h', n', e'⟩ := F_ex (cnj (gL m [t] ht) b)
    obtain ⟨nG, lG, hG2, x, ex⟩ := hs G mG
    have ecn : cnj (gL m [t] ht) b = cnj (gm x (gL m [t] ht)) a := by
      rw [cnj_m, ← ex, eG]
    rw [e'] at lo up
    have a1 := (inf_F n').mp lo
    have a2 := (sup_F n').mp up
    have a3 : k' = k := by
      rcases Int.lt_or_le k k' with h9 | h9
      · exfalso
        refine hr (gm x (gL m [t] ht)) ?_
        rw [← ecn, e']
        exact (inf_F n').mpr (by omega)
      · omega
    subst a3
    have a4 : G'.length = R := by
      rcases Nat.lt_or_ge G'.length R with h9 | h9
      · exfalso
        refine hu (gm x (gL m [t] ht)) ?_
        rw [← ecn, e']
        exact (sup_F n').mpr (by omega)
      · omega
    obtain ⟨i, hi⟩ := List.getElem?_of_mem mG
    refine ⟨G', h', hc i (List.getElem?_eq_some_iff.mp hi).1 G hG hi t ht (by omega) t1 t1 G' h' n' a4 ?_, e'⟩
    rw [← e', eG]
  · rw [e0, ← cnj_all rfl x1, ← e1]
    exact (inf_F n1).mpr (Int.le_refl _)
  · rw [e0, ← cnj_all rfl x1, ← e1]
    exact (sup_F n1).mpr (by omega)
def smB (a : Gn m) (k : Int) (R : Nat) : Prop := ∃ Ls : List (List Nat), Ls.Nodup ∧ Ls.length = 201 ∧ ∀ F, F ∈ Ls → sss a k R F
theorem xr_allForms {a : Gn m} {k : Int} {F0 : List Nat} (hT : tbG z) (hI : smF z m a k F0) : Te (fun K => qe_X13_allForms K (nI m.1) z) (fun o => ((o.1 = 1 ∧ ∃ Ls, afL o.2 m.1 Ls k ∧ Ls.length ≤ 200 ∧ Ls.Nodup ∧ ∀ F, F ∈ Ls ↔ sss a k F0.length F) ∨ o.1 = 0 ∧ smB a k F0.length) ∧ fr afH z o.2) := by
  have h2 := m.2.1
  have h5 := m.2.2
  have hN := nn_pos (n := m.1)
  obtain ⟨s1, s3, s2, s4, s5, s6, ⟨h0, x0, e0⟩, s8, s9⟩ := hI
  generalize hR : F0.length = R at s2 s5 s9
  let Q : Int32 × ow_MS → Prop := fun o => ((o.1 = 1 ∧ ∃ Ls, afL o.2 m.1 Ls k ∧ Ls.length ≤ 200 ∧ Ls.Nodup ∧ ∀ F, F ∈ Ls ↔ sss a k R F) ∨ o.1 = 0 ∧ smB a k R) ∧ fr afH z o.2
  have tF : ∀ {y : ow_MS}, fr afH z y → tbG y := fun hf => tbG_fr hf (fun g hg => by unfold afH at hg; omega) hT
  have nmA : ∀ {y y1 : ow_MS}, fr afH z y → fr nmH y y1 → fr afH z y1 := fun h1 h3 => fr_tr h1 (fr_mono (fun g hg => by unfold nmH at hg; unfold afH; omega) h3)
  have c1 : ∀ (d at9 : Nat) (Ls : List (List Nat)) (y : ow_MS), at9 + d = 200 → at9 ≤ Ls.length → Ls.length ≤ 200 → 1 ≤ Ls.length → Ls.Nodup → (∀ F, F ∈ Ls → sss a k R F) → (∀ i, i < at9 → cloS9 m k R Ls i (gNN m.1)) → afL y m.1 Ls k → fr afH z y → Tt (fun K i => q_X13_allForms K i 1 (nI m.1) (nI at9) 0 0 0 y) Q := by
    intro d
    have fin : ∀ (Ls : List (List Nat)) (y : ow_MS), Ls.length ≤ 200 → 1 ≤ Ls.length → Ls.Nodup → (∀ F, F ∈ Ls → sss a k R F) → (∀ i, i < Ls.length → cloS9 m k R Ls i (gNN m.1)) → afL y m.1 Ls k → fr afH z y → Q (1, y) := fun Ls y hL h1 hnd hs hc hA hf => ⟨Or.inl ⟨rfl, Ls, hA, hL, hnd, fun F => ⟨hs F, clo_all s8 s9 ⟨Ls[0], List.getElem_mem (by omega)⟩ hs hc F⟩⟩, hf⟩
    induction d with
    | zero =>
      intro at9 Ls y ha haL hL h1 hnd hs hc hA hf
      refine u_X13_allForms_1 ?_; unfold qm_X13_allForms_1
      exact w_rdF hA.1 (w_leT (by omega) (by omega) (w_okZ (Or.inr rfl) (w_some (fin Ls y hL h1 hnd hs (fun i hi => hc i (by omega)) hA hf))))
    | succ d ih =>
      intro at9 Ls y ha haL hL h1 hnd hs hc hA hf
      refine u_X13_allForms_1 ?_; unfold qm_X13_allForms_1
      refine w_rdF hA.1 (w_le (by omega) (by omega) (fun h9 => w_okZ (Or.inr rfl) (w_some (fin Ls y hL h1 hnd hs (fun i hi => hc i (by omega)) hA hf))) (fun hlt => ?_))
      have c2 : ∀ (d2 s : Nat) (Ls : List (List Nat)) (y : ow_MS), s + d2 = gNN m.1 → 1 ≤ s → at9 < Ls.length → Ls.length ≤ 200 → Ls.Nodup → (∀ F, F ∈ Ls → sss a k R F) → (∀ i, i < at9 → cloS9 m k R Ls i (gNN m.1)) → cloS9 m k R Ls at9 s → afL y m.1 Ls k → fr afH z y → Tt (fun K i => q_X13_allForms K i 2 (nI m.1) (nI at9) (nI s) 0 0 y) Q := by
        intro d2
        induction d2 with
        | zero =>
          intro s Ls y hs9 hs1 haL hL hnd hs hc hcs hA hf
          have es : s = gNN m.1 := by omega
          subst es
          refine u_X13_allForms_2 ?_; unfold qm_X13_allForms_2
          rw [show nI at9 + 1 = nI (at9 + 1) from nI_1 _]
          refine w_rdI ml97 rfl (by omega) ((tF hf) m.1 h2 h5).1 (w_leT (by omega) (by omega) (ih (at9 + 1) Ls y (by omega) (by omega) hL (by omega) hnd hs (fun i hi => ?_) hA hf))
          by_cases ei : i = at9
          · rw [ei]
            exact hcs
          · exact hc i (by omega)
        | succ d2 ih2 =>
          intro s Ls y hs9 hs1 haL hL hnd hs hc hcs hA hf
          have hsl : s < gNN m.1 := by omega
          have hah := (f_one h2 h5 hsl).2.1
          obtain ⟨Sa, eSa⟩ : ∃ Sa, Ls[at9]? = some Sa := ⟨_, List.getElem?_eq_getElem haL⟩
          have fa := hA.2 at9 Sa eSa
          obtain ⟨na, la, hSa, xa, exa⟩ := hs Sa (List.mem_of_getElem? eSa)
          have hs1k : okT m.1 [s] := okT_c.mpr ⟨hsl, okT_n⟩
          have c4 : ∀ (x4 x5 : Int32) (Ls : List (List Nat)) (y : ow_MS), at9 < Ls.length → Ls.length ≤ 200 → Ls.Nodup → (∀ F, F ∈ Ls → sss a k R F) → (∀ i, i < at9 → cloS9 m k R Ls i (gNN m.1)) → cloS9 m k R Ls at9 (s + 1) → afL y m.1 Ls k → fr afH z y → Tt (fun K i => q_X13_allForms K i 4 (nI m.1) (nI at9) (nI s) x4 x5 y) Q := by
            intro x4 x5 Ls y q1 q2 q3 q4 q5 q6 q7 q8
            refine u_X13_allForms_4 ?_; unfold qm_X13_allForms_4
            rw [show nI s + 1 = nI (s + 1) from nI_1 _]
            exact ih2 (s + 1) Ls y (by omega) (by omega) q1 q2 q3 q4 q5 q6 q7 q8
          have ht := tu_lt (k := k) h2 h5 hah
          have bdd : ∀ (j : Nat), (bsG m.1 (tuG m.1 k (ahG m.1 s) :: Sa.take j)).flatten.length ≤ 200 := by
            intro j
            have h3 := (bl_len h2 h5 (bsG m.1 (tuG m.1 k (ahG m.1 s) :: Sa.take j)) (bs_bl h2 h5 (fun s hs => by
              rcases List.mem_cons.mp hs with h9 | h9
              · rw [h9]; exact ht
              · exact na.1 s (List.mem_of_mem_take h9)))).1
            have h4 : (bsG m.1 (tuG m.1 k (ahG m.1 s) :: Sa.take j)).length ≤ R + 1 := by
              unfold bsG
              rw [List.length_map, List.length_cons, List.length_take]
              omega
            omega
          have c3 : ∀ (d3 j : Nat) (y : ow_MS), j + d3 = R → afL y m.1 Ls k → lnI y 109 108 (bsG m.1 (tuG m.1 k (ahG m.1 s) :: Sa.take j)).flatten → fr afH z y → Tt (fun K i => q_X13_allForms K i 3 (nI m.1) (nI at9) (nI s) (iI k) (nI j) y) Q := by
            intro d3
            induction d3 with
            | zero =>
              intro j y hj hA hw hf
              have hj : j = Sa.length := by omega
              subst hj
              have hfa := hA.2 at9 Sa eSa
              have hb9 := bdd Sa.length
              rw [List.take_length] at hw hb9
              refine u_X13_allForms_3 ?_; unfold qm_X13_allForms_3
              rw [show (40 : Int32) * nI at9 = nI (40 * at9) from pk_mul 40 _, nI_1]
              refine w_rdI ml115 rfl (by omega) hfa.2.1 (w_leT (by omega) (Nat.le_refl _) (w_cs0 (tp_append h2 h5 hsl (tF hf) hw (by omega)) (fun y1 ⟨w1, f1⟩ => ?_)))
              rw [← bs_app] at w1
              have hf1 : fr afH z y1 := fr_tr hf (fr_mono (fun g hg => by unfold afH; omega) f1)
              have hA1 := afL_fr f1 (by omega) (by omega) hA
              have hUk : okT m.1 (tuG m.1 k (ahG m.1 s) :: Sa ++ [s]) := okT_a.mpr ⟨okT_c.mpr ⟨ht, na.1⟩, hs1k⟩
              have e9 : iI k - 1 = iI (k - 1) := by
                show iI k - iI 1 = _
                rw [iI_sub]
              rw [e9]
              refine w_cs0 (xr_nmU (U := tuG m.1 k (ahG m.1 s) :: Sa ++ [s]) (tF hf1) hUk ?_ w1) (fun y2 ⟨⟨j2, F', b1, b2, b3, b4, b5⟩, b6⟩ => ?_)
              · rw [List.length_append, List.length_cons]
                show Sa.length + 1 + 1 ≤ 18
                omega
              · rw [List.length_append, List.length_cons] at b5
                have b5 : F'.length + j2 ≤ Sa.length + 1 + 1 := b5
                have hf2 := nmA hf1 b6
                have hA2 := afL_fr b6 (by unfold nmH; omega) (by unfold nmH; omega) hA1
                have eG : cnj (gL m [s] hs1k) (gF m k Sa hSa) = gF m (k - 1 + (j2 : Int)) F' b1.1 := (cj_F hsl (h3 := hUk)).trans (F_eq b2)
                obtain ⟨Sz, eSz⟩ : ∃ Sz, Ls[0]? = some Sz := ⟨_, List.getElem?_eq_getElem (by omega)⟩
                have fz := hA2.2 0 Sz eSz
                have lz := (hs Sz (List.mem_of_getElem? eSz)).2.1
                -- where the form is another one
                have oth : ∀ {Ls9 : List (List Nat)} {y9 : ow_MS} {x4 x5 : Int32}, Ls9 = Ls → afL y9 m.1 Ls k → fr afH z y9 → (k - 1 + (j2 : Int) = k → F'.length = R → F' ∈ Ls) → Tt (fun K i => q_X13_allForms K i 4 (nI m.1) (nI at9) (nI s) x4 x5 y9) Q := by
                  intro Ls9 y9 x4 x5 _ hA9 hf9 hin
                  refine c4 _ _ Ls y9 haL hL hnd hs hc (fun F hF9 eF t ht9 t1 t2 t3 G hG g1 g2 g3 => ?_) hA9 hf9
                  by_cases et : t = s
                  · subst et
                    have eFS : F = Sa := Option.some.inj (eF.symm.trans eSa)
                    subst eFS
                    rw [eG] at g3
                    obtain ⟨u1, u2⟩ := F_uni g1 b1 g3
                    rw [u2]
                    exact hin u1.symm (by rw [← u2]; exact g2)
                  · exact hcs F hF9 eF t ht9 t1 (by omega) t3 G hG g1 g2 g3
                refine w_rdF b4 (w_rdI (i := 0) ml115 rfl (by omega) fz.1 (w_if (fun hkk => w_rdF b3.1.1 (w_rdI (i := 1) ml115 rfl (by omega) fz.2.1 (w_eqN (by omega) (by omega) (fun hrr => ?_) (fun hrr => oth rfl hA2 hf2 (fun _ h9 => absurd (h9.trans lz.symm) hrr))))) (fun hkk => oth rfl hA2 hf2 (fun h9 => absurd (by rw [h9]) hkk))))
                have ekk : k - 1 + (j2 : Int) = k := (iI_eq (by omega) (by omega) (by omega) (by omega)).mp hkk
                have hrR : F'.length = R := hrr.trans lz
                have b4' : y2.1 112 = iI k := by rw [b4, ekk]
                refine w_cs0 (tp_formTo (r := 117) (o := 0) ml117 (by omega) (by omega) (by omega) (by omega) b3 b4') (fun y3 ⟨q1, q2, _⟩ => ?_)
                have hf3 : fr afH z y3 := fr_tr hf2 (fr_mono (fun g hg => by unfold afH; omega) q2)
                have hA3 := afL_fr q2 (by omega) (by omega) hA2
                have b3' : fmI y3 m.1 F' := ⟨lnI_fr q2 (by omega) (by omega) b3.1, b3.2⟩
                have hk3 : y3.1 112 = iI k := by rw [(q2 112 (by omega)).1]; exact b4'
                have hL38 : ∀ F, F ∈ Ls → F.length ≤ 38 := fun F hF => by have := (hs F hF).2.1; omega
                refine w_cs1 (xr_isThere (r := 117) (Or.inl rfl) hL hA3 hL38 q1 (by omega) (by omega) (by omega) (by omega) (by omega)) (fun v y4 ⟨e4, h4⟩ => ?_)
                have e4 : y4 = y3 := e4
                subst e4
                have sF' : sss a k R F' := by
                  rw [ekk] at eG
                  refine ⟨b1, hrR, b1.1, gm xa (gL m [s] hs1k), ?_⟩
                  rw [← eG, cnj_m, ← exa]
                rcases h4 with ⟨v1, -, v3⟩ | ⟨v1, v2⟩
                · have v1 : v = 1 := v1
                  rw [v1]
                  exact w_ifF (by decide) (oth rfl hA3 hf3 (fun _ _ => v3))
                · have v1 : v = 0 := v1
                  have nin : F' ∉ Ls := fun h9 => v2 ⟨rfl, h9⟩
                  have nd' : (Ls ++ [F']).Nodup := List.nodup_append.mpr ⟨hnd, List.nodup_cons.mpr ⟨List.not_mem_nil, List.nodup_nil⟩, fun x hx y hy e => nin (by rw [List.mem_singleton.mp hy] at e; rw [← e]; exact hx)⟩
                  have s' : ∀ F, F ∈ Ls ++ [F'] → sss a k R F := fun F hF => (List.mem_append.mp hF).elim (hs F) (fun h9 => by rw [List.mem_singleton.mp h9]; exact sF')
                  rw [v1]
                  refine w_ifT rfl (w_rdF hA3.1 (w_eqN (b := 200) (by omega) (by omega) (fun h200 => w_okZ (Or.inl rfl) (w_some ⟨Or.inr ⟨rfl, Ls ++ [F'], nd', by rw [List.length_append, h200]; rfl, s'⟩, hf3⟩)) (fun hne => w_rdF hA3.1 ?_)))
                  rw [show (40 : Int32) * nI Ls.length = nI (40 * Ls.length) from pk_mul 40 _]
                  refine w_cs0 (tp_formTo (r := 115) (o := 40 * Ls.length) ml115 (by omega) (by omega) (by omega) (by omega) b3' hk3) (fun y5 ⟨p1, p2, p3⟩ => ?_)
                  have h116 : y5.1 116 = nI Ls.length := by rw [(p2 116 (by omega)).1]; exact hA3.1
                  have ll : (Ls ++ [F']).length = Ls.length + 1 := by rw [List.length_append]; rfl
                  refine w_rdF h116 (w_wrF (c4 _ _ (Ls ++ [F']) _ (by omega) (by omega) nd' s' (fun i hi => clo_m (by omega) (hc i hi)) (fun F hF9 eF t ht9 t1 t2 t3 G hG g1 g2 g3 => ?_) ⟨?_, fun i S hi => ?_⟩ (fr_F2 (fr_tr hf3 (fr_mono (fun g hg => by unfold afH; omega) p2)) (by unfold afH; omega))))
                  · rw [List.getElem?_append_left haL] at eF
                    by_cases et : t = s
                    · subst et
                      have eFS : F = Sa := Option.some.inj (eF.symm.trans eSa)
                      subst eFS
                      rw [eG] at g3
                      obtain ⟨u1, u2⟩ := F_uni g1 b1 g3
                      rw [u2]
                      exact List.mem_append_right _ List.mem_cons_self
                    · exact List.mem_append_left _ (hcs F hF9 eF t ht9 t1 (by omega) t3 G hG g1 g2 g3)
                  · rw [ll]
                    exact po_usF_at.trans (nI_1 _)
                  · have hil := (List.getElem?_eq_some_iff.mp hi).1
                    rw [ll] at hil
                    by_cases hiF : i = Ls.length
                    · rw [hiF, List.getElem?_append_right (Nat.le_refl _), Nat.sub_self] at hi
                      have : F' = S := Option.some.inj hi
                      rw [hiF, ← this]
                      exact p1
                    · rw [List.getElem?_append_left (by omega)] at hi
                      have i2 := hA3.2 i S hi
                      have il := (hs S (List.mem_of_getElem? hi)).2.1
                      refine ⟨?_, ?_, fun j s hj => ?_, i2.2.2.2⟩
                      · show y5.2.1 115 (40 * i) = _
                        rw [p3 _ (by omega)]
                        exact i2.1
                      · show y5.2.1 115 (40 * i + 1) = _
                        rw [p3 _ (by omega)]
                        exact i2.2.1
                      · show y5.2.1 115 (40 * i + 2 + j) = _
                        have hjl := (List.getElem?_eq_some_iff.mp hj).1
                        rw [p3 _ (by omega)]
                        exact i2.2.2.1 j s hj
            | succ d3 ih3 =>
              intro j y hj hA hw hf
              have hjl : j < Sa.length := by omega
              have hfa := hA.2 at9 Sa eSa
              have hb9 := bdd j
              refine u_X13_allForms_3 ?_; unfold qm_X13_allForms_3
              rw [show (40 : Int32) * nI at9 = nI (40 * at9) from pk_mul 40 _, show nI (40 * at9) + 1 = nI (40 * at9 + 1) from nI_1 _, show nI (40 * at9) + 2 = nI (40 * at9 + 2) from nI_add _ 2, nI_add, show nI j + 1 = nI (j + 1) from nI_1 _]
              refine w_rdI ml115 rfl (by omega) hfa.2.1 (w_leF (by omega) (by omega) (w_rdI ml115 rfl (by omega) (hfa.2.2.1 j _ (List.getElem?_eq_getElem hjl)) (w_cs0 (tp_append h2 h5 (na.1 _ (List.getElem_mem hjl)) (tF hf) hw (by omega)) (fun y1 ⟨w1, f1⟩ => ?_))))
              rw [← bs_app, show tuG m.1 k (ahG m.1 s) :: Sa.take j ++ [Sa[j]] = tuG m.1 k (ahG m.1 s) :: Sa.take (j + 1) from by rw [List.take_succ, List.getElem?_eq_getElem hjl]; rfl] at w1
              exact ih3 (j + 1) y1 (by omega) (afL_fr f1 (by omega) (by omega) hA) w1 (fr_tr hf (fr_mono (fun g hg => by unfold afH; omega) f1))
          have hf0 : fr afH z (usF y 109 0) := fr_F2 hf (by unfold afH; omega)
          refine u_X13_allForms_2 ?_; unfold qm_X13_allForms_2
          rw [show (40 : Int32) * nI at9 = nI (40 * at9) from pk_mul 40 _, ix120]
          refine w_rdI ml97 rfl (by omega) ((tF hf) m.1 h2 h5).1 (w_leF (by omega) (by omega) (w_rdI ml115 rfl (by omega) fa.1 (w_wrF (w_rdI ml102 rfl (by omega) (((tF hf0) m.1 h2 h5).2 s hsl).2.1 (w_cs1 (xr_turned h2 h5 hah (tF hf0) (by omega) (by omega)) (fun v y1 ⟨e1, k2w⟩ => ?_))))))
          have e1 : y1 = usF y 109 0 := e1
          have k2v : v = nI (tuG m.1 k (ahG m.1 s)) := k2w
          subst e1
          rw [k2v]
          refine w_cs0 (tp_append (L := []) h2 h5 ht (tF hf0) ⟨po_usF_at, fun i a hi => by simp at hi⟩ (by decide)) (fun y2 ⟨w2, f2⟩ => ?_)
          refine c3 R 0 y2 (by omega) (afL_fr f2 (by omega) (by omega) (afL_fr (fr_F (P := fun g => g = 109) rfl) (by omega) (by omega) hA)) ?_ (fr_tr hf0 (fr_mono (fun g hg => by unfold afH; omega) f2))
          rw [List.take_zero]
          have : (bsG m.1 [tuG m.1 k (ahG m.1 s)]).flatten = [] ++ ltG m.1 (tuG m.1 k (ahG m.1 s)) := by
            unfold bsG
            simp
          rw [this]
          exact w2
      exact c2 (gNN m.1 - 1) 1 Ls y (by omega) (by omega) hlt hL hnd hs hc (fun F hF9 eF t ht9 t1 t2 => absurd t2 (by omega)) hA hf
  refine e_X13_allForms ?_
  refine u_X13_allForms_0 ?_; unfold qm_X13_allForms_0
  refine w_cs0 (tp_formTo (r := 115) (o := 0) ml115 (by omega) (by omega) (by omega) (by omega) s1 s3) (fun y ⟨p1, p2, _⟩ => w_wrF ?_)
  refine c1 200 0 [F0] _ (by omega) (Nat.zero_le _) (by rw [List.length_singleton]; omega) (by rw [List.length_singleton]; omega) (List.nodup_cons.mpr ⟨List.not_mem_nil, List.nodup_nil⟩) (fun F hF => ?_) (fun i hi => absurd hi (Nat.not_lt_zero _)) ⟨po_usF_at, fun i S hi => ?_⟩ (fr_F2 (fr_mono (fun g hg => by unfold afH; omega) p2) (by unfold afH; omega))
  · rw [List.mem_singleton.mp hF]
    exact ⟨s6, hR, h0, x0, e0⟩
  · have hil := (List.getElem?_eq_some_iff.mp hi).1
    rw [List.length_singleton] at hil
    have i0 : i = 0 := by omega
    subst i0
    have : F0 = S := Option.some.inj hi
    rw [← this]
    exact frwI_fr (fr_F (P := fun g => g = 116) rfl) (by omega) p1
end XS3
end
section
/-! 99zzzzzzzzzzzzzzzp.xsm4 -/
/-! summit: the class's forms: one simple braid before another -/
def pbI (n : Nat) (F L : List Nat) (j : Nat) : Prop := (∀ i, L[j + 1 + i]? = F[j + i]?) ∧ (∀ i g g', i + 1 ≤ j → L[i]? = some g → L[i + 1]? = some g' → lwG n g g') ∧ ∀ i g, i + 1 = j → L[i]? = some g → ∀ t, t < gNN n → (r1G n t (L.drop i)).1 = 0 → ddG n g t = 0
section XS4
variable {n : Nat}
theorem dr_2 {L : List Nat} {j p q : Nat} (e1 : L[j]? = some p) (e2 : L[j + 1]? = some q) : L.drop j = p :: q :: L.drop (j + 2) := by
  have l2 := (List.getElem?_eq_some_iff.mp e2).1
  have k1 : L.drop j = L[j]'(by omega) :: L.drop (j + 1) := List.drop_eq_getElem_cons (by omega)
  have k2 : L.drop (j + 1) = L[j + 1]'(by omega) :: L.drop (j + 1 + 1) := List.drop_eq_getElem_cons l2
  rw [List.getElem?_eq_getElem (by omega)] at e1
  rw [List.getElem?_eq_getElem l2] at e2
  rw [k1, k2, Option.some.inj e1, Option.some.inj e2]
theorem set_dr {L : List Nat} {j p q : Nat} (hl : j + 1 < L.length) : ((L.set j p).set (j + 1) q) = L.take j ++ p :: q :: L.drop (j + 2) := by
  refine List.ext_getElem? (fun i => ?_)
  by_cases c1 : i < j
  · rw [List.getElem?_append_left (by rw [List.length_take]; omega), List.getElem?_take_of_lt c1, List.getElem?_set_ne (by omega), List.getElem?_set_ne (by omega)]
  · rw [List.getElem?_append_right (by rw [List.length_take]; omega), List.length_take, Nat.min_eq_left (by omega)]
    by_cases c2 : i = j
    · rw [c2, Nat.sub_self, List.getElem?_set_ne (by omega), List.getElem?_set_self (by omega)]
      rfl
    · by_cases c3 : i = j + 1
      · rw [c3, show j + 1 - j = 1 by omega, List.getElem?_set_self (by rw [List.length_set]; omega)]
        rfl
      · rw [List.getElem?_set_ne (by omega), List.getElem?_set_ne (by omega)]
        obtain ⟨d, hd⟩ : ∃ d, i - j = d + 2 := ⟨i - j - 2, by omega⟩
        rw [hd]
        show L[i]? = (L.drop (j + 2))[d]?
        rw [List.getElem?_drop, show j + 2 + d = i by omega]
theorem pb_0 {F : List Nat} {b : Nat} : pbI n F (b :: F) 0 := ⟨fun i => by rw [show 0 + 1 + i = i + 1 by omega, List.getElem?_cons_succ, Nat.zero_add], fun i g g' h => absurd h (by omega), fun i g h => absurd h (by omega)⟩
theorem pb_stop {F L : List Nat} {j p q : Nat} (hF : wtL n F) (h : pbI n F L j) (ep : L[j]? = some p) (eq : L[j + 1]? = some q) (hl : lwG n p q) : wtL n L := by
  intro i g g' e1 e2
  by_cases c1 : i + 1 ≤ j
  · exact h.2.1 i g g' c1 e1 e2
  · by_cases c2 : i = j
    · rw [c2, ep] at e1
      rw [c2, eq] at e2
      rw [← Option.some.inj e1, ← Option.some.inj e2]
      exact hl
    · have k1 := h.1 (i - j - 1)
      have k2 := h.1 (i - j)
      rw [show j + 1 + (i - j - 1) = i by omega, e1] at k1
      rw [show j + 1 + (i - j) = i + 1 by omega, e2] at k2
      refine hF (j + (i - j - 1)) g g' k1.symm ?_
      rw [show j + (i - j - 1) + 1 = j + (i - j) by omega]
      exact k2.symm
theorem pb_end {F L : List Nat} (hl : L.length = F.length + 1) (h : pbI n F L F.length) : wtL n L := fun i g g' e1 e2 => by
  have := (List.getElem?_eq_some_iff.mp e2).1
  exact h.2.1 i g g' (by omega) e1 e2
/-- a letter more -/
theorem r1_let (h2 : 2 ≤ n) (h5 : n ≤ 5) {w c p : Nat} {R : List Nat} (hw : w < gNN n) (hc : c + 1 < n) (hp : p < gNN n) (hR : okT n R) (m1 : moG n w c ≠ 0) (m2 : ddG n p (moG n 0 c - 1) = 0) : (r1G n (moG n w c - 1) (w :: p :: R)).1 = 0 := by
  have hl := lett h2 h5 hc
  have e1 : muG n w (moG n 0 c - 1) = (moG n w c - 1) + 1 := by rw [mu_let h2 h5 hc]; omega
  have hX : okT n (w :: p :: R) := okT_c.mpr ⟨hw, okT_c.mpr ⟨hp, hR⟩⟩
  have k := (r1_mul h2 h5 (w :: p :: R) hw hl e1 hX).2
  have e2 : r1G n w (w :: p :: R) = (0, 0 :: p :: R) := by
    show ((r1G n (ddG n w w) (p :: R)).1, ddG n w w :: (r1G n (ddG n w w) (p :: R)).2) = _
    rw [dd_s h2 h5 hw, r1_0 h2 h5 _ (okT_c.mpr ⟨hp, hR⟩)]
  rw [e2] at k
  have e3 : (r1G n (moG n 0 c - 1) (0 :: p :: R)).1 = 0 := by
    show (r1G n (ddG n p (ddG n 0 (moG n 0 c - 1))) R).1 = 0
    rw [dd_0l h2 h5 hl, m2, r1_0 h2 h5 R hR]
  rw [e3, mu_r0 h2 h5] at k
  omega
theorem pb_step (h2 : 2 ≤ n) (h5 : n ≤ 5) {F L : List Nat} {j p q x p' q' : Nat} (hF : wtL n F) (hL : okT n L) (hl : L.length = F.length + 1) (h : pbI n F L j) (ep : L[j]? = some p) (eq : L[j + 1]? = some q) (hx : x < gNN n) (hq' : q' < gNN n) (e1 : muG n p x = p' + 1) (e2 : muG n x q' = q + 1) (hw : lwG n p' q') : okT n ((L.set j p').set (j + 1) q') ∧ eqT n L ((L.set j p').set (j + 1) q') ∧ pbI n F ((L.set j p').set (j + 1) q') (j + 1) := by
  have l2 := (List.getElem?_eq_some_iff.mp eq).1
  have hp := hL p (List.mem_of_getElem? ep)
  have hq := hL q (List.mem_of_getElem? eq)
  have hp' := (mu_lt h2 h5 hp e1).1
  have hD : okT n (L.drop (j + 2)) := fun t ht => hL t (List.mem_of_mem_drop ht)
  have hT : okT n (L.take j) := fun t ht => hL t (List.mem_of_mem_take ht)
  have eL : L = L.take j ++ p :: q :: L.drop (j + 2) := by
    rw [← dr_2 ep eq, List.take_append_drop]
  have eS := set_dr (p := p') (q := q') l2
  have ok : okT n ((L.set j p').set (j + 1) q') := by
    rw [eS]
    exact okT_a.mpr ⟨hT, okT_c.mpr ⟨hp', okT_c.mpr ⟨hq', hD⟩⟩⟩
  have dS : ∀ i, i ≤ j → eqT n (L.drop i) (((L.set j p').set (j + 1) q').drop i) := fun i hi => by
    have a1 : L.drop i = (L.take j).drop i ++ p :: q :: L.drop (j + 2) := by
      conv => lhs; rw [eL]
      rw [List.drop_append_of_le_length (by rw [List.length_take]; omega)]
    have a2 : ((L.set j p').set (j + 1) q').drop i = (L.take j).drop i ++ p' :: q' :: L.drop (j + 2) := by
      rw [eS, List.drop_append_of_le_length (by rw [List.length_take]; omega)]
    rw [a1, a2]
    exact eqT_swp h2 h5 (fun t ht => hT t (List.mem_of_mem_drop ht)) hD hp hx hq' e1 e2
  have gt : ∀ i, j + 2 ≤ i → ((L.set j p').set (j + 1) q')[i]? = L[i]? := fun i hi => by
    rw [List.getElem?_set_ne (by omega), List.getElem?_set_ne (by omega)]
  have gl : ∀ i, i < j → ((L.set j p').set (j + 1) q')[i]? = L[i]? := fun i hi => by
    rw [List.getElem?_set_ne (by omega), List.getElem?_set_ne (by omega)]
  have gj : ((L.set j p').set (j + 1) q')[j]? = some p' := by
    rw [List.getElem?_set_ne (by omega), List.getElem?_set_self (by omega)]
  have gj1 : ((L.set j p').set (j + 1) q')[j + 1]? = some q' := by
    rw [List.getElem?_set_self (by rw [List.length_set]; omega)]
  have d0 := dS 0 (Nat.zero_le _)
  refine ⟨ok, d0, fun i => ?_, fun i g g' hi g1 g2 => ?_, fun i g hi g1 t ht e9 => ?_⟩
  · rw [gt _ (by omega)]
    have := h.1 (i + 1)
    rw [show j + 1 + (i + 1) = j + 1 + 1 + i by omega, show j + (i + 1) = j + 1 + i by omega] at this
    exact this
  · by_cases c1 : i = j
    · rw [c1, gj] at g1
      rw [c1, gj1] at g2
      rw [← Option.some.inj g1, ← Option.some.inj g2]
      exact hw
    · rw [gl i (by omega)] at g1
      by_cases c2 : i + 1 = j
      · rw [c2, gj] at g2
        have eg' := Option.some.inj g2
        have hg := hL g (List.mem_of_getElem? g1)
        intro c hc m1 m2
        rw [← eg'] at m2
        have dg : ((L.set j p').set (j + 1) q').drop i = g :: p' :: ((L.set j p').set (j + 1) q').drop (i + 2) := dr_2 (by rw [gl i (by omega)]; exact g1) (by rw [c2]; exact gj)
        have k := r1_let h2 h5 (R := ((L.set j p').set (j + 1) q').drop (i + 2)) hg hc hp' (fun t ht => ok t (List.mem_of_mem_drop ht)) m1 m2
        rw [← dg, ← (eqT_1 (dS i (by omega)) (by
          have e5 : muG n g (moG n 0 c - 1) = (moG n g c - 1) + 1 := by rw [mu_let h2 h5 hc]; omega
          exact (mu_lt h2 h5 hg e5).1)).1] at k
        have e5 : muG n g (moG n 0 c - 1) = (moG n g c - 1) + 1 := by rw [mu_let h2 h5 hc]; omega
        have k2 := h.2.2 i g c2 g1 _ (mu_lt h2 h5 hg e5).1 k
        have e6 := mu_dd h2 h5 hg (lett h2 h5 hc) e5
        have e7 := dv_as h2 h5 (mu_lt h2 h5 hg e5).1 hg k2 e6.1
        have e8 := (mu_lt h2 h5 hg e5).2
        rw [sz_let h2 h5 hc] at e8
        rw [e7] at e8
        omega
      · rw [gl (i + 1) (by omega)] at g2
        exact h.2.1 i g g' (by omega) g1 g2
  · have ei : i = j := by omega
    subst ei
    rw [gj] at g1
    rw [← Option.some.inj g1]
    rw [← (eqT_1 (dS i (Nat.le_refl _)) ht).1, dr_2 ep eq] at e9
    have e9 : (r1G n (ddG n p t) (q :: L.drop (i + 2))).1 = 0 := e9
    have hq2 : okT n (q :: L.drop (i + 2)) := okT_c.mpr ⟨hq, hD⟩
    have wq : wtL n (q :: L.drop (i + 2)) := fun k g g' k1 k2 => by
      have lk : ∀ k, (q :: L.drop (i + 2))[k]? = L[i + 1 + k]? := fun k => by
        cases k with
        | zero => exact eq.symm
        | succ k =>
          rw [List.getElem?_cons_succ, List.getElem?_drop]
          congr 1
          omega
      rw [lk, h.1] at k1 k2
      exact hF (i + k) g g' k1 k2
    have k3 := lw_div h2 h5 _ hq2 wq (dd_lt h2 h5 hp ht) e9
    have k4 : (r1G n t [p, q]).1 = 0 := k3
    have e10 : eqT n [p, q] [p', q'] := eqT_swp (X := []) (Y := []) h2 h5 okT_n okT_n hp hx hq' e1 e2
    rw [(eqT_1 e10 ht).1] at k4
    refine lw_div h2 h5 [q'] (okT_c.mpr ⟨hp', okT_c.mpr ⟨hq', okT_n⟩⟩) (fun k g g' k1 k2 => ?_) ht k4
    cases k with
    | zero =>
      have a1 : p' = g := Option.some.inj k1
      have a2 : q' = g' := Option.some.inj k2
      rw [← a1, ← a2]
      exact hw
    | succ k =>
      have h9 : k + 1 + 1 < 2 := (List.getElem?_eq_some_iff.mp k2).1
      omega
variable {vl : Nat → Nat} {y : ow_MS} {h : Nat} {κ : Int32}
theorem xc_putBefore {F : List Nat} {b : Nat} (hh : fO h) (h2 : 2 ≤ n) (h5 : n ≤ 5) (hF : nfL n F) (hb : b < gNN n) (hl : F.length < 24) (h0 : foA y h n κ (F.map (pkG n))) : Te (fun K => ce_X5_putBefore vl K h (pkG n b) y) (fun y1 => ∃ d F', foA y1 h n (κ + nI d) (F'.map (pkG n)) ∧ nfL n F' ∧ F'.length ≤ F.length + 1 ∧ eqT n (b :: F) (List.replicate d (gNN n - 1) ++ F') ∧ fr (foP h) y y1) := by
  let Q : ow_MS → Prop := fun y1 => ∃ d F', foA y1 h n (κ + nI d) (F'.map (pkG n)) ∧ nfL n F' ∧ F'.length ≤ F.length + 1 ∧ eqT n (b :: F) (List.replicate d (gNN n - 1) ++ F') ∧ fr (foP h) y y1
  obtain ⟨h3, -⟩ := fo_len h0
  have c2 : ∀ (z : ow_MS) (a c : Int32) (L : List Nat), okT n L → wtL n L → L.length = F.length + 1 → eqT n (b :: F) L → foA z h n κ (L.map (pkG n)) → fr (foP h) y z → Tt (fun K t => c_X5_putBefore vl K t 2 (pkG n b) a c h z) Q := by
    intro z a c L q1 q2 q3 q4 q5 q6
    refine u_X5_putBefore_2 ?_; unfold cm_X5_putBefore_2
    refine w_cs0 (xc_strip hh h2 h5 q1 q2 q5) ?_
    rintro z1 ⟨d, F', g1, g2, g3, g4, g5⟩
    exact w_some ⟨d, F', g1, g2, by omega, eqT_tr q4 g4, fr_tr q6 g5⟩
  have c1 : ∀ (d j : Nat) (z : ow_MS) (a : Int32) (L : List Nat), j + d = F.length → okT n L → L.length = F.length + 1 → eqT n (b :: F) L → foA z h n κ (L.map (pkG n)) → fr (foP h) y z → (a = 1 ∧ pbI n F L j ∨ a = 0 ∧ wtL n L) → Tt (fun K t => c_X5_putBefore vl K t 1 (pkG n b) a (nI j) h z) Q := by
    intro d
    induction d with
    | zero =>
      intro j z a L hj q1 q3 q4 q5 q6 q7
      have ej : j = F.length := by omega
      subst ej
      have hw : wtL n L := by
        rcases q7 with ⟨-, q7⟩ | ⟨-, q7⟩
        · exact pb_end q3 q7
        · exact q7
      obtain ⟨z3, -⟩ := fo_len q5
      rw [q3] at z3
      refine u_X5_putBefore_1 ?_; unfold cm_X5_putBefore_1
      refine w_rdF z3 ?_
      rw [show nI (F.length + 1) - 1 = nI F.length from pk_sub (b := 1) (by omega)]
      exact w_leT (by omega) (by omega) (c2 z _ _ L q1 hw q3 q4 q5 q6)
    | succ d ih =>
      intro j z a L hj q1 q3 q4 q5 q6 q7
      obtain ⟨z3, -⟩ := fo_len q5
      rw [q3] at z3
      have ea : L[j]? = some (L[j]'(by omega)) := List.getElem?_eq_getElem (by omega)
      have eb : L[j + 1]? = some (L[j + 1]'(by omega)) := List.getElem?_eq_getElem (by omega)
      refine u_X5_putBefore_1 ?_; unfold cm_X5_putBefore_1
      refine w_rdF z3 ?_
      rw [show nI (F.length + 1) - 1 = nI F.length from pk_sub (b := 1) (by omega)]
      refine w_leF (by omega) (by omega) ?_
      rcases q7 with ⟨rfl, q7⟩ | ⟨rfl, q7⟩
      · refine w_ifF (by decide) (w_cs1 (xc_weigh hh h2 h5 q1 q5 ea eb) ?_)
        rintro v z1 (⟨g1, g2, g3⟩ | ⟨g1, g2, x, p', q', x1, x2, x3, x4, x5, x6⟩)
        · dsimp only at g1 g2
          rw [nI_1, g1, g2]
          exact ih (j + 1) z 0 L (by omega) q1 q3 q4 q5 q6 (Or.inr ⟨rfl, pb_stop hF.2.1 q7 ea eb g3⟩)
        · dsimp only at g1 g2 x6
          rw [nI_1, g1]
          obtain ⟨s1, s2, s3⟩ := pb_step h2 h5 hF.2.1 q1 q3 q7 ea eb x1 x2 x3 x4 x5
          exact ih (j + 1) z1 1 _ (by omega) s1 (by rw [List.length_set, List.length_set]; exact q3) (eqT_tr q4 s2) x6 (fr_tr q6 g2) (Or.inl ⟨rfl, s3⟩)
      · exact w_ifT rfl (c2 z _ _ L q1 q7 q3 q4 q5 q6)
  refine e_X5_putBefore ?_
  refine u_X5_putBefore_0 ?_; unfold cm_X5_putBefore_0
  refine w_rdF h3 (w_lt (b := 24) (by omega) (by omega) (fun hl24 => w_rdF h3 (w_cpI (a := 0) (b := 1) (n := F.length) (fO_4 hh) (fO_4 hh) rfl rfl rfl (by omega) (by omega) (w_ctI (i := 0) (fO_4 hh) rfl (by omega) (w_rdF (x := nI F.length) h3 (w_wrF ?_))))) (fun h9 => absurd hl (Nat.not_lt.mpr h9)))
  rw [nI_1]
  refine c1 F.length 0 _ 1 (b :: F) (by omega) (okT_c.mpr ⟨hb, hF.1⟩) rfl (eqT_rf _) ?_ (fr_F2 (fr_I2 (fr_R2 fr_rf (by unfold foP; omega)) (by unfold foP; omega)) (by unfold foP; omega)) (Or.inl ⟨rfl, pb_0⟩)
  obtain ⟨a1, a2, a3, a4, a5, a6, a7⟩ := h0
  refine ⟨rf_ot (by omega) a1, rf_ot (by omega) a2, ?_, ?_, fun i c ei => ?_, rf_ot (by omega) a6, rf_ot (by omega) a7⟩
  · rw [List.length_map, List.length_cons]
    exact po_usF_at
  · rw [List.length_map, List.length_cons]
    omega
  · show (usI (usR y (h + 4) (va_cpy (y.2.1 (h + 4)) (y.2.1 (h + 4)) 0 1 F.length)) (h + 4) 0 (pkG n b)).2.1 (h + 4) i = c
    rw [List.map_cons] at ei
    cases i with
    | zero =>
      rw [po_usI_at]
      exact Option.some.inj ei
    | succ i =>
      rw [List.getElem?_cons_succ] at ei
      have l := (List.getElem?_eq_some_iff.mp ei).1
      rw [List.length_map] at l
      rw [po_usI_ne (by omega), usR_at, pk_cpy_in (by omega) (by omega), show 0 + (i + 1 - 1) = i by omega]
      exact a5 i c ei
end XS4
end
