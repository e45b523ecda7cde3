section
/-! 99zzzzzzzzzzzzzzzl.xga6 -/
/-! braids: cycling and decycling of forms; where they stop; the whole summit set -/
section XG7
variable {m : N5}
noncomputable def cnj (x a : Gn m) : Gn m := gm (gi x) (gm a x)
def gF (m : N5) (k : Int) (F : List Nat) (h : okT m.1 F) : Gn m := gm (gD m k) (gL m F h)
theorem cnj_m (x y a : Gn m) : cnj (gm x y) a = cnj y (cnj x a) := by
  unfold cnj
  simp only [gm_as, gi_m]
theorem cnj_1 (a : Gn m) : cnj (g1 m) a = a := by
  unfold cnj
  rw [gi_1, g1_l, g1_r]
theorem cnj_i (x a : Gn m) : gi (cnj x a) = cnj x (gi a) := by
  unfold cnj
  simp only [gm_as, gi_m, gi_i]
theorem inf_F {k j : Int} {F : List Nat} {h : okT m.1 F} (hF : nfL m.1 F) : gle (gD m j) (gF m k F h) ↔ j ≤ k := by
  constructor
  · intro h9
    rcases Int.lt_or_le k j with h8 | h8
    · exfalso
      have := gle_tr (gle_sm (show k + 1 ≤ j by omega)) h9
      unfold gF at this
      rw [D_k1, gle_l] at this
      exact nf_inf hF this
    · exact h8
  · intro h9
    exact gle_tr (gle_sm h9) (gle_p gp_L)
theorem sup_F {k s : Int} {F : List Nat} {h : okT m.1 F} (hF : nfL m.1 F) : gle (gF m k F h) (gD m s) ↔ k + (F.length : Int) ≤ s := by
  have e : gle (gF m k F h) (gD m s) ↔ gle (gL m F h) (gD m (-k + s)) := by
    unfold gF
    rw [gle_s, gi_D, gD_m]
  rw [e]
  constructor
  · intro h9
    rcases Int.lt_or_le (-k + s) 0 with h8 | h8
    · exfalso
      have := (gle_ln h9).1
      rw [glen_L, glen_D] at this
      have s1 := sz_D1 (m := m)
      have : (-k + s) * (szD m : Int) < 0 := Int.mul_neg_of_neg_of_pos h8 (by omega)
      omega
    · obtain ⟨l, hl⟩ : ∃ l : Nat, -k + s = (l : Int) := ⟨(-k + s).toNat, by omega⟩
      rw [hl] at h9
      have := nf_sup F l hF h9
      omega
  · intro h9
    exact gle_tr (sup_le F) (gle_sm (by omega))
theorem nf_uni {F G : List Nat} {hF : okT m.1 F} {hG : okT m.1 G} (h1 : nfL m.1 F) (h2 : nfL m.1 G) (e : gL m F hF = gL m G hG) : F = G := by
  have key : ∀ (F G : List Nat) (hF : okT m.1 F) (hG : okT m.1 G), nfL m.1 F → nfL m.1 G → gL m F hF = gL m G hG → F = G := by
    intro F
    induction F with
    | nil =>
      intro G hF hG _ h2 e
      cases G with
      | nil => rfl
      | cons g G =>
        exfalso
        have := congrArg glen e
        rw [glen_L, glen_L] at this
        have z : szT m.1 (g :: G) = szG m.1 g + szT m.1 G := rfl
        have z0 : szT m.1 [] = 0 := rfl
        exact (h2.2.2 g List.mem_cons_self).1 (sz_z m.2.1 m.2.2 (okT_c.mp hG).1 (by omega))
    | cons f F ih =>
      intro G hF hG h1 h2 e
      cases G with
      | nil =>
        exfalso
        have := congrArg glen e
        rw [glen_L, glen_L] at this
        have z : szT m.1 (f :: F) = szG m.1 f + szT m.1 F := rfl
        have z0 : szT m.1 [] = 0 := rfl
        exact (h1.2.2 f List.mem_cons_self).1 (sz_z m.2.1 m.2.2 (okT_c.mp hF).1 (by omega))
      | cons g G =>
        obtain ⟨hf, hF'⟩ := okT_c.mp hF
        obtain ⟨hg, hG'⟩ := okT_c.mp hG
        have f1 : okT m.1 [f] := okT_c.mpr ⟨hf, okT_n⟩
        have g1' : okT m.1 [g] := okT_c.mpr ⟨hg, okT_n⟩
        have M1 := fst_M (hf := f1) (hF := hF) h1.2.1
        have M2 := fst_M (hf := g1') (hF := hG) h2.2.1
        rw [e] at M1
        have e1 := isM_un M1 M2
        have e2 : eqT m.1 [f] [g] := gL_ex e1
        have d1 := (dv_1 m.2.1 m.2.2 hf hg).mp ⟨[], okT_n, eqT_sy e2⟩
        have d2 := (dv_1 m.2.1 m.2.2 hg hf).mp ⟨[], okT_n, e2⟩
        have efg : f = g := dv_as m.2.1 m.2.2 hf hg d1 d2
        subst efg
        rw [gL_c f1 hF', gL_c f1 hG'] at e
        have e3 := congrArg (fun x => gm (gi (gL m [f] f1)) x) e
        simp only [gi_cl] at e3
        rw [ih G hF' hG' (nf_c h1) (nf_c h2) e3]
  exact key F G hF hG h1 h2 e
theorem F_uni {k k' : Int} {F G : List Nat} {hF : okT m.1 F} {hG : okT m.1 G} (h1 : nfL m.1 F) (h2 : nfL m.1 G) (e : gF m k F hF = gF m k' G hG) : k = k' ∧ F = G := by
  have a1 := (inf_F (h := hF) (k := k) (j := k) h1).mpr (Int.le_refl _)
  rw [e] at a1
  have a2 := (inf_F (h := hG) (k := k') (j := k') h2).mpr (Int.le_refl _)
  rw [← e] at a2
  have b1 := (inf_F h2).mp a1
  have b2 := (inf_F h1).mp a2
  have ek : k = k' := by omega
  subst ek
  refine ⟨rfl, nf_uni (hF := hF) (hG := hG) h1 h2 ?_⟩
  have e3 := congrArg (fun x => gm (gi (gD m k)) x) e
  unfold gF at e3
  simp only [gi_cl] at e3
  exact e3
theorem F_eq {k : Int} {j : Nat} {T F : List Nat} {hT : okT m.1 T} {hF : okT m.1 F} (e : eqT m.1 T (List.replicate j (gNN m.1 - 1) ++ F)) : gF m k T hT = gF m (k + j) F hF := by
  unfold gF
  have hR : okT m.1 (List.replicate j (gNN m.1 - 1)) := rp_ok
  rw [gL_eq (hT := okT_a.mpr ⟨hR, hF⟩) e, ← gL_m hR hF, gL_rp, ← gm_as, gD_m]
theorem F_ex (a : Gn m) : ∃ k F h, nfL m.1 F ∧ a = gF m k F h := by
  obtain ⟨a, rfl⟩ := g_rep a
  obtain ⟨j, F, f1, f2⟩ := nf_ex a.2
  refine ⟨a.1.1 + j, F, f1.1, f1, ?_⟩
  rw [g_eq]
  exact F_eq f2
theorem D_L {k : Int} {T : List Nat} (hT : okT m.1 T) : gm (gD m k) (gL m T hT) = gm (gL m (ovp m.1 k T) (ovp_ok m.2.1 m.2.2 hT)) (gD m k) := by
  rw [gL_D]
  congr 1
  refine gL_eq ?_
  have e : ovp m.1 k (ovp m.1 k T) = T := by
    have := ovp_ov (k := k) (l := k) m.2.1 m.2.2 hT
    rw [this]
    exact if_pos (by omega)
  rw [e]
  exact eqT_rf _
theorem nf_ovp {n : Nat} (h2 : 2 ≤ n) (h5 : n ≤ 5) {k : Int} {F : List Nat} (h : nfL n F) : nfL n (ovp n k F) := by
  unfold ovp
  split
  · exact h
  · exact nf_ov h2 h5 h
def tuG (n : Nat) (k : Int) (f : Nat) : Nat := if k % 2 = 0 then f else ovG n f
theorem tu_lt {n : Nat} (h2 : 2 ≤ n) (h5 : n ≤ 5) {k : Int} {f : Nat} (hf : f < gNN n) : tuG n k f < gNN n := by
  unfold tuG
  split
  · exact hf
  · exact ov_lt h2 h5 hf
theorem ovp_c {n : Nat} {k : Int} {f : Nat} {F : List Nat} : ovp n k (f :: F) = tuG n k f :: ovp n k F := by
  unfold ovp tuG
  split <;> rfl
/-- the first factor goes behind -/
theorem cyc_F {k : Int} {f : Nat} {F : List Nat} {h : okT m.1 (f :: F)} (hn : nfL m.1 (f :: F)) : ∃ (h1 : okT m.1 [tuG m.1 k f]) (h3 : okT m.1 (F ++ [tuG m.1 k f])), isM (gm (gF m k (f :: F) h) (gi (gD m k))) (gD m 1) (gL m [tuG m.1 k f] h1) ∧ cnj (gL m [tuG m.1 k f] h1) (gF m k (f :: F) h) = gF m k (F ++ [tuG m.1 k f]) h3 := by
  obtain ⟨hf, hF⟩ := okT_c.mp h
  have ht := tu_lt (k := k) m.2.1 m.2.2 hf
  have h1 : okT m.1 [tuG m.1 k f] := okT_c.mpr ⟨ht, okT_n⟩
  have hf1 : okT m.1 [f] := okT_c.mpr ⟨hf, okT_n⟩
  refine ⟨h1, okT_a.mpr ⟨hF, h1⟩, ?_, ?_⟩
  · have e : gm (gF m k (f :: F) h) (gi (gD m k)) = gL m (tuG m.1 k f :: ovp m.1 k F) (okT_c.mpr ⟨ht, ovp_ok m.2.1 m.2.2 hF⟩) := by
      unfold gF
      rw [D_L, gm_as, gi_r, g1_r]
      refine gL_eq ?_
      rw [ovp_c]
      exact eqT_rf _
    rw [e]
    have := nf_ovp (k := k) m.2.1 m.2.2 hn
    rw [ovp_c] at this
    exact fst_M this.2.1
  · have e1 : gm (gD m k) (gL m [f] hf1) = gm (gL m [tuG m.1 k f] h1) (gD m k) := by
      rw [D_L hf1]
      congr 1
      refine gL_eq ?_
      rw [ovp_c, ovp_nil]
      exact eqT_rf _
    unfold cnj gF
    rw [gL_c hf1 hF, ← gm_as (gD m k), e1, ← gL_m hF h1]
    simp only [gm_as, gi_cl]
/-- the last factor goes before -/
theorem dcy_F {k : Int} {a : Nat} {F : List Nat} {h : okT m.1 (F ++ [a])} (hn : nfL m.1 (F ++ [a])) : ∃ (h1 : okT m.1 [a]) (h3 : okT m.1 (tuG m.1 k a :: F)), isM (gm (gi (gF m k (F ++ [a]) h)) (gD m (k + ((F.length + 1 : Nat) : Int)))) (gD m 1) (gm (gi (gL m [a] h1)) (gD m 1)) ∧ gm (gL m [a] h1) (gm (gF m k (F ++ [a]) h) (gi (gL m [a] h1))) = gF m k (tuG m.1 k a :: F) h3 := by
  obtain ⟨hF, h1⟩ := okT_a.mp h
  have ha := (okT_c.mp h1).1
  have ht := tu_lt (k := k) m.2.1 m.2.2 ha
  have ht1 : okT m.1 [tuG m.1 k a] := okT_c.mpr ⟨ht, okT_n⟩
  refine ⟨h1, okT_c.mpr ⟨ht, hF⟩, ?_, ?_⟩
  · have e : gm (gi (gF m k (F ++ [a]) h)) (gD m (k + ((F.length + 1 : Nat) : Int))) = gm (gi (gL m (F ++ [a]) h)) (gD m ((F.length + 1 : Nat) : Int)) := by
      unfold gF
      rw [gi_m, gm_as, ← gD_m, gi_cl]
    rw [e]
    exact lst_M h1 hn
  · have e1 : gm (gL m [a] h1) (gD m k) = gm (gD m k) (gL m [tuG m.1 k a] ht1) := by
      rw [gL_D]
      congr 1
      refine gL_eq ?_
      rw [ovp_c, ovp_nil]
      exact eqT_rf _
    unfold gF
    rw [← gL_m hF h1, gL_c ht1 hF]
    simp only [gm_as, gi_r, g1_r]
    rw [← gm_as (gL m [a] h1), e1, gm_as]
/-- conjugating by a simple one, as a list -/
theorem cj_F {k : Int} {s : Nat} {F : List Nat} (hs : s < gNN m.1) {h : okT m.1 F} {h1 : okT m.1 [s]} {h3 : okT m.1 (tuG m.1 k (ahG m.1 s) :: F ++ [s])} : cnj (gL m [s] h1) (gF m k F h) = gF m (k - 1) (tuG m.1 k (ahG m.1 s) :: F ++ [s]) h3 := by
  obtain ⟨a1, a2⟩ := okT_a.mp h3
  obtain ⟨a3, -⟩ := okT_c.mp a1
  have ha := (f_one m.2.1 m.2.2 hs).2.1
  have hA : okT m.1 [ahG m.1 s] := okT_c.mpr ⟨ha, okT_n⟩
  have hA' : okT m.1 [tuG m.1 k (ahG m.1 s)] := okT_c.mpr ⟨a3, okT_n⟩
  have e0 : gm (gL m [ahG m.1 s] hA) (gL m [s] h1) = gD m 1 := by
    rw [gL_m]
    exact D_t ha hs (ta_n m.2.1 m.2.2 hs).2
  have e1 : gi (gL m [s] h1) = gm (gi (gD m 1)) (gL m [ahG m.1 s] hA) := by
    have := congrArg (fun x => gm (gi (gD m 1)) (gm x (gi (gL m [s] h1)))) e0
    simp only [gm_as, gi_r, g1_r, gi_cl] at this
    exact this.symm
  have e2 : gm (gL m [ahG m.1 s] hA) (gD m k) = gm (gD m k) (gL m [tuG m.1 k (ahG m.1 s)] hA') := by
    rw [gL_D]
    congr 1
    refine gL_eq ?_
    rw [ovp_c, ovp_nil]
    exact eqT_rf _
  have e3 : gL m (tuG m.1 k (ahG m.1 s) :: F ++ [s]) h3 = gm (gL m [tuG m.1 k (ahG m.1 s)] hA') (gm (gL m F h) (gL m [s] h1)) := by
    rw [gL_m h h1, gL_m]
    rfl
  unfold cnj gF
  rw [e1, e3]
  simp only [gm_as]
  rw [← gm_as (gL m [ahG m.1 s] hA), e2, gi_D, show gD m (k - 1) = gm (gD m (-1)) (gD m k) by rw [gD_m]; congr 1; omega]
  simp only [gm_as]
theorem inv_le {S : Int} {a : Gn m} : rsd (-S) (gi a) ↔ gle a (gD m (S - 1)) := by
  have e : gD m (-S + 1) = gi (gD m (S - 1)) := by
    rw [gi_D]
    congr 1
    omega
  unfold rsd gle
  rw [e, gi_i]
  constructor
  · intro h
    have := gp_cj (S - 1) h
    simp only [gm_as, gi_cl] at this
    exact this
  · intro h
    have := gp_ci (S - 1) h
    simp only [gm_as, gi_r, g1_r] at this
    exact this
noncomputable def mt9 (a b : Gn m) : Gn m := Classical.choose (gmeet a b)
theorem mt9_M (a b : Gn m) : isM a b (mt9 a b) := Classical.choose_spec (gmeet a b)
noncomputable def cyS (k : Int) (a : Gn m) : Nat → Gn m
  | 0 => a
  | j + 1 => cnj (mt9 (gm (cyS k a j) (gi (gD m k))) (gD m 1)) (cyS k a j)
/-- as many idle cyclings as delta has letters: nothing is raised -/
theorem idle_c {k : Int} {s : Nat → Gn m} (hl : gle (gD m k) (s 0)) (hs : ∀ j, j < szD m → ∃ i, isM (gm (s j) (gi (gD m k))) (gD m 1) i ∧ s (j + 1) = cnj i (s j)) (h0 : ∀ j, j ≤ szD m → ¬ rsd k (s j)) (x : Gn m) : ¬ rsd k (cnj x (s 0)) := by
  intro hx
  have e : ∀ j, j ≤ szD m → cyS k (s 0) j = s j := by
    intro j
    induction j with
    | zero => exact fun _ => rfl
    | succ j ih =>
      intro hj
      have ih := ih (by omega)
      obtain ⟨i, i1, i2⟩ := hs j (by omega)
      show cnj (mt9 (gm (cyS k (s 0) j) (gi (gD m k))) (gD m 1)) (cyS k (s 0) j) = s (j + 1)
      rw [ih, i2, isM_un (mt9_M _ _) i1]
  obtain ⟨N, n1, n2⟩ := bkl (s := cyS k (s 0)) (i := fun j => mt9 (gm (cyS k (s 0) j) (gi (gD m k))) (gD m 1)) hl (fun j => mt9_M _ _) (fun j => rfl) hx
  rw [e N n1] at n2
  exact h0 N n1 n2
theorem isM_D {a b c : Gn m} (j : Int) (h : isM a b c) : isM (cnj (gD m j) a) (cnj (gD m j) b) (cnj (gD m j) c) := by
  have up : ∀ {x y : Gn m}, gle x y → gle (cnj (gD m j) x) (cnj (gD m j) y) := fun {x y} h => (gle_l _).mpr (gle_rD j h)
  refine ⟨up h.1, up h.2.1, fun z h1 h2 => ?_⟩
  have back : ∀ {x y : Gn m}, gle x (cnj (gD m j) y) → gle (gm (gD m j) (gm x (gi (gD m j)))) y := fun {x y} h => by
    have := (gle_l (gD m j)).mpr (gle_ri j h)
    unfold cnj at this
    simp only [gm_as, gi_cr, gi_r, g1_r] at this ⊢
    exact this
  have := up (h.2.2 _ (back h1) (back h2))
  unfold cnj at this
  simp only [gm_as, gi_cl, gi_l, g1_r] at this
  exact this
theorem idle_d {S : Int} {s : Nat → Gn m} (hl : gle (s 0) (gD m S)) (hs : ∀ j, j < szD m → ∃ a, isM (gm (gi (s j)) (gD m S)) (gD m 1) (gm (gi a) (gD m 1)) ∧ s (j + 1) = gm a (gm (s j) (gi a))) (h0 : ∀ j, j ≤ szD m → ¬ gle (s j) (gD m (S - 1))) (x : Gn m) : ¬ gle (cnj x (s 0)) (gD m (S - 1)) := by
  intro hx
  have t0 : cnj (gD m ((0 : Nat) : Int)) (gi (s 0)) = gi (s 0) := by
    have : gD m ((0 : Nat) : Int) = g1 m := rfl
    rw [this, cnj_1]
  refine idle_c (k := -S) (s := fun j => cnj (gD m (j : Int)) (gi (s j))) ?_ (fun j hj => ?_) (fun j hj h9 => ?_) x ?_
  · show gle (gD m (-S)) (cnj (gD m ((0 : Nat) : Int)) (gi (s 0)))
    rw [t0]
    have : rsd (-(S + 1)) (gi (s 0)) := inv_le.mpr (by rw [show S + 1 - 1 = S by omega]; exact hl)
    unfold rsd at this
    rw [show -(S + 1) + 1 = -S by omega] at this
    exact this
  · obtain ⟨a, a1, a2⟩ := hs j hj
    refine ⟨cnj (gD m (j : Int)) (gm (gi a) (gD m 1)), ?_, ?_⟩
    · have k := isM_D (j : Int) a1
      have e1 : cnj (gD m (j : Int)) (gD m 1) = gD m 1 := D_c1 _ _
      have e2 : cnj (gD m (j : Int)) (gm (gi (s j)) (gD m S)) = gm (cnj (gD m (j : Int)) (gi (s j))) (gi (gD m (-S))) := by
        unfold cnj
        rw [gi_D (-S), Int.neg_neg]
        simp only [gm_as]
        rw [D_cm S]
      rw [e1, e2] at k
      exact k
    · show cnj (gD m ((j + 1 : Nat) : Int)) (gi (s (j + 1))) = _
      have e3 : gD m ((j + 1 : Nat) : Int) = gm (gD m 1) (gD m (j : Int)) := by
        rw [gD_m]
        congr 1
        omega
      rw [a2, e3]
      unfold cnj
      simp only [gm_as, gi_m, gi_i, gi_cr]
  · have h9 : rsd (-S) (cnj (gD m (j : Int)) (gi (s j))) := h9
    have := rsd_ci (j := (j : Int)) h9
    unfold cnj at this
    simp only [gm_as, gi_cr, gi_r, g1_r] at this
    exact h0 j hj (inv_le.mp this)
  · show rsd (-S) (cnj x (cnj (gD m ((0 : Nat) : Int)) (gi (s 0))))
    rw [t0, ← cnj_i]
    exact inv_le.mpr hx
theorem D2_c (j : Int) (a : Gn m) : gm a (gD m (2 * j)) = gm (gD m (2 * j)) a := by
  obtain ⟨a, rfl⟩ := g_rep a
  rw [g_eq, gm_as, gL_D, ← gm_as, D_cm, gm_as]
  congr 1
  congr 1
  refine gL_eq ?_
  rw [show ovp m.1 (2 * j) a.1.2 = a.1.2 from if_pos (by omega)]
  exact eqT_rf _
/-- what holds for one of a summit set and goes on by simple ones holds for all -/
theorem sss_all {k S : Int} {C : Gn m → Prop} (hC : ∀ b t h, C b → t < gNN m.1 → t ≠ 0 → gle (gD m k) (cnj (gL m [t] h) b) → gle (cnj (gL m [t] h) b) (gD m S) → C (cnj (gL m [t] h) b)) {b : Gn m} (hb : C b) (l : gle (gD m k) b) (u : gle b (gD m S)) {x : Gn m} (lx : gle (gD m k) (cnj x b)) (ux : gle (cnj x b) (gD m S)) : C (cnj x b) := by
  have key : ∀ (L : Nat) (x b : Gn m), gpo x → glen x ≤ (L : Int) → C b → gle (gD m k) b → gle b (gD m S) → gle (gD m k) (cnj x b) → gle (cnj x b) (gD m S) → C (cnj x b) := by
    intro L
    induction L with
    | zero =>
      intro x b px hL hb l u lx ux
      have := gp_0 px
      have e := gp_z px (by omega)
      rw [e, cnj_1]
      exact hb
    | succ L ih =>
      intro x b px hL hb l u lx ux
      obtain ⟨e, he⟩ := gmeet x (gD m 1)
      have pe : gpo e := gle_1.mp (he.2.2 _ (gle_1.mpr px) (gle_1.mpr (gp_D 1)))
      by_cases e0 : glen e = 0
      · have ex := gp_D1 px he e0
        rw [ex, cnj_1]
        exact hb
      · obtain ⟨l1, u1⟩ := sss_st l u lx ux he
        obtain ⟨t, ht, t1, et⟩ := gp_smp pe he.2.1
        have t0 : t ≠ 0 := fun h9 => e0 (by
          rw [et, glen_L, h9]
          have : szT m.1 [0] = szG m.1 0 + 0 := rfl
          rw [this, sz_0 m.2.1 m.2.2]
          rfl)
        have c1 : C (cnj e b) := by
          rw [et]
          rw [et] at l1 u1
          exact hC b t ht hb t1 t0 l1 u1
        have ex : cnj x b = cnj (gm (gi e) x) (cnj e b) := by
          rw [← cnj_m, gi_cr]
        rw [ex] at lx ux ⊢
        have := gp_0 pe
        refine ih _ _ he.1 ?_ c1 l1 u1 lx ux
        rw [glen_m, glen_i]
        omega
  obtain ⟨j, hj⟩ := g_up x
  have p := hj (2 * j) (by omega)
  rw [show ((2 * j : Nat) : Int) = 2 * (j : Int) by omega, ← D2_c] at p
  have ex : cnj (gm x (gD m (2 * (j : Int)))) b = cnj x b := by
    rw [cnj_m]
    show gm (gi (gD m (2 * (j : Int)))) (gm (cnj x b) (gD m (2 * (j : Int)))) = _
    rw [D2_c, gi_cl]
  have := key (glen (gm x (gD m (2 * (j : Int))))).toNat _ b p (by have := gp_0 p; omega) hb l u (by rw [ex]; exact lx) (by rw [ex]; exact ux)
  rw [ex] at this
  exact this
/-- the same where only those are tried that don't begin with one that stays -/
theorem sss_pr {k S : Int} {C : Gn m → Prop} (hC : ∀ b t h, C b → t < gNN m.1 → t ≠ 0 → gle (gD m k) (cnj (gL m [t] h) b) → gle (cnj (gL m [t] h) b) (gD m S) → C (cnj (gL m [t] h) b) ∨ ∃ t' h', t' < gNN m.1 ∧ t' ≠ 0 ∧ t' ≠ t ∧ ddG m.1 t t' = 0 ∧ gle (gD m k) (cnj (gL m [t'] h') b) ∧ gle (cnj (gL m [t'] h') b) (gD m S)) : ∀ b t h, C b → t < gNN m.1 → t ≠ 0 → gle (gD m k) (cnj (gL m [t] h) b) → gle (cnj (gL m [t] h) b) (gD m S) → C (cnj (gL m [t] h) b) := by
  have h2 := m.2.1
  have h5 := m.2.2
  have key : ∀ (L : Nat) (b : Gn m) (t : Nat) (h : okT m.1 [t]), szG m.1 t ≤ L → C b → t < gNN m.1 → t ≠ 0 → gle (gD m k) (cnj (gL m [t] h) b) → gle (cnj (gL m [t] h) b) (gD m S) → C (cnj (gL m [t] h) b) := by
    intro L
    induction L with
    | zero =>
      intro b t h hL hb t1 t0 l u
      exact absurd (sz_z h2 h5 t1 (by omega)) t0
    | succ L ih =>
      intro b t h hL hb t1 t0 l u
      rcases hC b t h hb t1 t0 l u with h9 | ⟨t', h', a1, a2, a3, a4, a5, a6⟩
      · exact h9
      · have hd := dd_lt h2 h5 a1 t1
        have e1 := dd_mu h2 h5 a1 t1 a4
        have e2 := (mu_lt h2 h5 a1 e1).2
        have d0 : ddG m.1 t' t ≠ 0 := fun e9 => by
          rw [e9, mu_r0 h2 h5] at e1
          omega
        have s1 : szG m.1 t' ≠ 0 := fun e9 => a2 (sz_z h2 h5 a1 e9)
        have s2 : szG m.1 (ddG m.1 t' t) ≠ 0 := fun e9 => d0 (sz_z h2 h5 hd e9)
        have c1 := ih b t' h' (by omega) hb a1 a2 a5 a6
        have hr : okT m.1 [ddG m.1 t' t] := okT_c.mpr ⟨hd, okT_n⟩
        have et : gL m [t] h = gm (gL m [t'] h') (gL m [ddG m.1 t' t] hr) := by
          rw [gL_m]
          refine gL_eq (eqT_sy (eqT_tr (eqT_swp (X := []) (Y := []) h2 h5 okT_n okT_n a1 hd nn_0 e1 (mu_r0 h2 h5)) (eqT_id (X := [t]) (Y := []) h2 h5 h okT_n)))
        rw [et, cnj_m] at l u ⊢
        exact ih _ _ hr (by omega) c1 hd d0 l u
  exact fun b t h hb t1 t0 l u => key (szG m.1 t) b t h (Nat.le_refl _) hb t1 t0 l u
end XG7
end
section
/-! 99zzzzzzzzzzzzzzzm.xsm1 -/
/-! summit: the reference's cycling and decycling, exactly -/
section XS1
theorem i_ev : ∀ v : Fin 401, (iI ((v.val : Int) - 200) &&& 1 = 0) ↔ ((v.val : Int) - 200) % 2 = 0 := by decide +kernel
theorem iI_ev {k : Int} (h1 : -200 ≤ k) (h2 : k ≤ 200) : (iI k &&& 1 = 0) ↔ k % 2 = 0 := by
  have := i_ev ⟨(k + 200).toNat, by omega⟩
  have e : (((k + 200).toNat : Int)) - 200 = k := by omega
  dsimp only at this
  rw [e] at this
  exact this
theorem bs_bv {n : Nat} (h2 : 2 ≤ n) (h5 : n ≤ 5) : ∀ (U : List Nat), okT n U → bvG n (bsG n U) U
  | [], _ => trivial
  | u :: U, h => ⟨(f_one h2 h5 (okT_c.mp h).1).2.2.2.2.1, (okT_c.mp h).1, bs_bv h2 h5 U (okT_c.mp h).2⟩
variable {z : ow_MS} {m : N5}
theorem xr_turned {n s : Nat} {k : Int} (h2 : 2 ≤ n) (h5 : n ≤ 5) (hs : s < gNN n) (hT : tbG z) (k1 : -200 ≤ k) (k2 : k ≤ 200) : Te (fun K => qe_X13_turned K (nI n) (nI s) (iI k) z) (fun r => r.2 = z ∧ r.1 = nI (tuG n k s)) := by
  have hN := nn_pos (n := n)
  have h1 := f_one h2 h5 hs
  refine e_X13_turned ?_; unfold qm_X13_turned_0
  rw [ix120]
  refine w_if (fun e => w_some ⟨rfl, ?_⟩) (fun e => w_rdI ml103 rfl (by omega) ((hT n h2 h5).2 s hs).2.2.1 (w_some ⟨rfl, ?_⟩))
  · show nI s = nI (tuG n k s)
    unfold tuG
    rw [if_pos ((iI_ev k1 k2).mp e)]
  · show nI (ovG n s) = nI (tuG n k s)
    unfold tuG
    rw [if_neg (fun h9 => e ((iI_ev k1 k2).mpr h9))]
def nmQ (z : ow_MS) (m : N5) (U : List Nat) (k : Int) (z1 : ow_MS) : Prop := (∃ (j : Nat) (F : List Nat), nfL m.1 F ∧ eqT m.1 U (List.replicate j (gNN m.1 - 1) ++ F) ∧ fmI z1 m.1 F ∧ z1.1 112 = iI (k + (j : Int)) ∧ F.length + j ≤ U.length) ∧ fr nmH z z1
theorem nmQ_tr {y y1 : ow_MS} {U : List Nat} {k : Int} (hf : fr nmH z y) (h : nmQ y m U k y1) : nmQ z m U k y1 := ⟨h.1, fr_tr hf h.2⟩
theorem xr_nmU {U : List Nat} {k : Int} (hT : tbG z) (hU : ∀ s, s ∈ U → s < gNN m.1) (hl : U.length ≤ 18) (hw : lnI z 109 108 (bsG m.1 U).flatten) : Te (fun K => qe_X13_normalise K (nI m.1) (iI k) z) (nmQ z m U k) := by
  have h2 := m.2.1
  have h5 := m.2.2
  have hUk : okT m.1 U := hU
  obtain ⟨j, F, f1, f2⟩ := nf_ex hUk
  have hR : okT m.1 (List.replicate j (gNN m.1 - 1)) := rp_ok
  have hD0 := dl_0 (m := m)
  have sl : F.length + j ≤ U.length := by
    have e := F_eq (m := m) (k := 0) (hT := hUk) (hF := f1.1) f2
    have a1 : gle (gF m 0 U hUk) (gD m (U.length : Int)) := by
      unfold gF
      have : gD m 0 = g1 m := rfl
      rw [this, g1_l]
      exact sup_le U
    rw [e] at a1
    have := (sup_F f1).mp a1
    omega
  refine w_monoE (te_and (xr_normalise (k := iI k) h2 h5 hT (bs_bv h2 h5 U hUk) (by unfold bsG; rw [List.length_map]; exact hl) hw (okT_a.mpr ⟨hR, f1.1⟩) (wt_D h2 h5 f1.2.1) (fun g hg => ?_) f2) (tp_nmU (κ := k) h2 h5 rfl hT hU hl hw)) (fun z1 ⟨⟨a1, a2⟩, a3⟩ => ⟨⟨j, F, f1, f2, ?_, ?_, sl⟩, a3.2⟩)
  · rcases List.mem_append.mp hg with h9 | h9
    · rw [(List.mem_replicate.mp h9).2]
      exact hD0
    · exact (f1.2.2 g h9).1
  · rw [List.filter_append, List.filter_eq_nil_iff.mpr (fun g hg => by rw [(List.mem_replicate.mp hg).2]; simp), List.nil_append, List.filter_eq_self.mpr (fun g hg => decide_eq_true (f1.2.2 g hg).2)] at a1
    exact a1
  · rw [List.countP_append, List.countP_eq_length.mpr (fun g hg => by rw [(List.mem_replicate.mp hg).2]; simp), List.countP_eq_zero.mpr (fun g hg => by have := (f1.2.2 g hg).2; simp [this]), List.length_replicate, Nat.add_zero] at a2
    rw [a2, nI_iI, iI_add]
theorem xr_cyc0 {S : List Nat} {κ : Int} {s0 : Nat} {U0 : List Nat} (hSU : S = s0 :: U0) (hT : tbG z) (hS : fmI z m.1 S) (hl : S.length ≤ 16) (hk : z.1 112 = iI κ) (k1 : -200 ≤ κ) (k2 : κ ≤ 200) : Te (fun K => qe_X13_cycle K (nI m.1) 0 z) (nmQ z m (U0 ++ [tuG m.1 κ s0]) κ) := by
  subst hSU
  have h2 := m.2.1
  have h5 := m.2.2
  generalize hn9 : m.1 = n at *
  have hl : U0.length + 1 ≤ 16 := hl
  have hN := nn_pos (n := n)
  have tF : ∀ {y : ow_MS}, fr nmH z y → tbG y := fun hf => tbG_fr hf (fun g hg => by unfold nmH at hg; omega) hT
  let F : Nat → Prop := fun g => g = 108 ∨ g = 109
  have toN : ∀ {y : ow_MS}, fr F z y → fr nmH z y := fun hf => fr_mono (fun g hg => by have hg : g = 108 ∨ g = 109 := hg; unfold nmH; omega) hf
  have sF : ∀ {y : ow_MS} {i s : Nat}, fr F z y → (s0 :: U0)[i]? = some s → y.2.1 114 i = nI s ∧ s < gNN n := fun hf hi => ⟨by rw [(hf 114 (by show ¬ (114 = 108 ∨ 114 = 109); omega)).2.1]; exact hS.1.2 _ _ hi, hS.2 _ (List.mem_of_getElem? hi)⟩
  have hszl : ∀ j, szL n (U0.take j) ≤ 10 * j := by
    intro j
    have h1 := bs_fl (n := n) (U0.take j)
    have h3 := (bl_len h2 h5 (bsG n (U0.take j)) (bs_bl h2 h5 (fun s hs => hS.2 s (List.mem_cons_of_mem _ (List.mem_of_mem_take hs))))).1
    unfold bsG at h3
    rw [List.length_map, List.length_take] at h3
    unfold bsG at h1
    omega
  have c3 : ∀ (d j : Nat) (y : ow_MS), j + d = U0.length → lnI y 109 108 (bsG n (U0.take j)).flatten → fr F z y → Tt (fun K i => q_X13_cycle K i 3 (nI n) 0 (nI (U0.length + 1)) (iI κ) (nI (j + 1)) 0 0 y) (nmQ z m (U0 ++ [tuG n κ s0]) κ) := by
    intro d
    induction d with
    | zero =>
      intro j y hj hw hf
      have hj : j = U0.length := by omega
      subst hj
      have hwl := hszl U0.length
      rw [List.take_length] at hw hwl
      refine u_X13_cycle_3 ?_; unfold qm_X13_cycle_3
      refine w_ifT rfl ?_
      refine u_X13_cycle_4 ?_; unfold qm_X13_cycle_4
      refine w_leT (by omega) (Nat.le_refl _) (w_ifT rfl (w_rdI (i := 0) ml114 rfl (by omega) (sF hf (i := 0) rfl).1 (w_cs1 (xr_turned h2 h5 (sF hf (i := 0) rfl).2 (tF (toN hf)) k1 k2) (fun v y1 ⟨e1, s2⟩ => ?_))))
      have e1 : y1 = y := e1
      have s2v : v = nI (tuG n κ s0) := s2
      have s1 := tu_lt (k := κ) h2 h5 (sF hf (i := 0) rfl).2
      subst e1
      rw [s2v]
      refine w_cs0 (tp_append h2 h5 s1 (tF (toN hf)) hw (by rw [bs_fl]; omega)) (fun y2 ⟨w2, f2⟩ => ?_)
      have hf2 : fr F z y2 := fr_tr hf (fr_mono (fun g hg => hg) f2)
      refine u_X13_cycle_5 ?_; unfold qm_X13_cycle_5
      rw [← bs_app] at w2
      rw [← hn9] at w2 ⊢
      refine w_cs0 (xr_nmU (tF (toN hf2)) (fun s hs => ?_) (by rw [List.length_append]; show U0.length + 1 ≤ 18; omega) w2) (fun y3 a5 => w_some (nmQ_tr (toN hf2) a5))
      rcases List.mem_append.mp hs with h9 | h9
      · rw [hn9]
        exact hS.2 s (List.mem_cons_of_mem _ h9)
      · rw [List.mem_singleton.mp h9, hn9]
        exact s1
    | succ d ih =>
      intro j y hj hw hf
      have hjl : j < U0.length := by omega
      have hwl := hszl j
      have hsj := sF hf (i := j + 1) (s := U0[j]) (by rw [List.getElem?_cons_succ]; exact List.getElem?_eq_getElem hjl)
      refine u_X13_cycle_3 ?_; unfold qm_X13_cycle_3
      refine w_ifT rfl ?_
      refine u_X13_cycle_4 ?_; unfold qm_X13_cycle_4
      refine w_leF (by omega) (by omega) (w_rdI ml114 rfl (by omega) hsj.1 (w_cs0 (tp_append h2 h5 hsj.2 (tF (toN hf)) hw (by rw [bs_fl]; omega)) (fun y2 ⟨w2, f2⟩ => ?_)))
      rw [← bs_app, show U0.take j ++ [U0[j]] = U0.take (j + 1) from by rw [List.take_succ, List.getElem?_eq_getElem hjl]; rfl] at w2
      rw [show nI (j + 1) + 1 = nI (j + 1 + 1) from nI_1 _]
      exact ih (j + 1) y2 (by omega) w2 (fr_tr hf (fr_mono (fun g hg => hg) f2))
  refine e_X13_cycle ?_
  refine u_X13_cycle_0 ?_; unfold qm_X13_cycle_0
  refine w_rdF hS.1.1 (w_rdF hk (w_wrF (w_ifT rfl ?_)))
  refine u_X13_cycle_1 ?_; unfold qm_X13_cycle_1
  refine w_ifT rfl ?_
  refine u_X13_cycle_2 ?_; unfold qm_X13_cycle_2
  exact c3 U0.length 0 _ (by omega) ⟨po_usF_at, fun i a hi => by simp [bsG] at hi⟩ (fr_F (Or.inr rfl))
theorem xr_cyc1 {S : List Nat} {κ : Int} {s0 : Nat} {U0 : List Nat} (hSU : S = U0 ++ [s0]) (hT : tbG z) (hS : fmI z m.1 S) (hl : S.length ≤ 16) (hk : z.1 112 = iI κ) (k1 : -200 ≤ κ) (k2 : κ ≤ 200) : Te (fun K => qe_X13_cycle K (nI m.1) 1 z) (nmQ z m (tuG m.1 κ s0 :: U0) κ) := by
  subst hSU
  have h2 := m.2.1
  have h5 := m.2.2
  generalize hn9 : m.1 = n at *
  have hSl : (U0 ++ [s0]).length = U0.length + 1 := by rw [List.length_append]; rfl
  rw [hSl] at hl
  have hN := nn_pos (n := n)
  have tF : ∀ {y : ow_MS}, fr nmH z y → tbG y := fun hf => tbG_fr hf (fun g hg => by unfold nmH at hg; omega) hT
  let F : Nat → Prop := fun g => g = 108 ∨ g = 109
  have toN : ∀ {y : ow_MS}, fr F z y → fr nmH z y := fun hf => fr_mono (fun g hg => by have hg : g = 108 ∨ g = 109 := hg; unfold nmH; omega) hf
  have sF : ∀ {y : ow_MS} {i s : Nat}, fr F z y → (U0 ++ [s0])[i]? = some s → y.2.1 114 i = nI s ∧ s < gNN n := fun hf hi => ⟨by rw [(hf 114 (by show ¬ (114 = 108 ∨ 114 = 109); omega)).2.1]; exact hS.1.2 _ _ hi, hS.2 _ (List.mem_of_getElem? hi)⟩
  have c3 : ∀ (d j s' : Nat) (y : ow_MS), s' < gNN n → s' = tuG n κ s0 → j + d = U0.length → lnI y 109 108 (bsG n (s' :: U0.take j)).flatten → fr F z y → Tt (fun K i => q_X13_cycle K i 3 (nI n) 1 (nI (U0.length + 1)) (iI κ) (nI j) 0 0 y) (nmQ z m (tuG n κ s0 :: U0) κ) := by
    intro d
    induction d with
    | zero =>
      intro j s' y hs' hsz hj hw hf
      have hj : j = U0.length := by omega
      subst hj
      rw [List.take_length] at hw
      refine u_X13_cycle_3 ?_; unfold qm_X13_cycle_3
      rw [show nI (U0.length + 1) - 1 = nI U0.length from (pk_sub (a := U0.length + 1) (b := 1) (by omega)).trans (by rw [Nat.add_sub_cancel])]
      refine w_ifF (by decide) ?_
      refine u_X13_cycle_4 ?_; unfold qm_X13_cycle_4
      refine w_leT (by omega) (Nat.le_refl _) (w_ifF (by decide) ?_)
      refine u_X13_cycle_5 ?_; unfold qm_X13_cycle_5
      subst hsz
      rw [← hn9] at hw ⊢
      refine w_cs0 (xr_nmU (tF (toN hf)) (fun s hs => ?_) (by rw [List.length_cons]; omega) hw) (fun y3 a5 => w_some (nmQ_tr (toN hf) a5))
      rcases List.mem_cons.mp hs with h9 | h9
      · rw [h9, hn9]
        exact hs'
      · rw [hn9]
        exact hS.2 s (List.mem_append_left _ h9)
    | succ d ih =>
      intro j s' y hs' hsz hj hw hf
      have hjl : j < U0.length := by omega
      have hsj := sF hf (i := j) (s := U0[j]) (by rw [List.getElem?_append_left hjl]; exact List.getElem?_eq_getElem hjl)
      have hwl : (bsG n (s' :: U0.take j)).flatten.length ≤ 200 := by
        have h3 := (bl_len h2 h5 (bsG n (s' :: U0.take j)) (bs_bl h2 h5 (fun s hs => by
          rcases List.mem_cons.mp hs with h9 | h9
          · rw [h9]; exact hs'
          · exact hS.2 s (List.mem_append_left _ (List.mem_of_mem_take h9))))).1
        have h4 : (bsG n (s' :: U0.take j)).length ≤ U0.length + 1 := by
          unfold bsG
          rw [List.length_map, List.length_cons, List.length_take]
          omega
        omega
      refine u_X13_cycle_3 ?_; unfold qm_X13_cycle_3
      rw [show nI (U0.length + 1) - 1 = nI U0.length from (pk_sub (a := U0.length + 1) (b := 1) (by omega)).trans (by rw [Nat.add_sub_cancel])]
      refine w_ifF (by decide) ?_
      refine u_X13_cycle_4 ?_; unfold qm_X13_cycle_4
      refine w_leF (by omega) (by omega) (w_rdI ml114 rfl (by omega) hsj.1 (w_cs0 (tp_append h2 h5 hsj.2 (tF (toN hf)) hw (by omega)) (fun y2 ⟨w2, f2⟩ => ?_)))
      rw [← bs_app, show s' :: U0.take j ++ [U0[j]] = s' :: U0.take (j + 1) from by rw [List.take_succ, List.getElem?_eq_getElem hjl]; rfl] at w2
      rw [show nI j + 1 = nI (j + 1) from nI_1 _]
      exact ih (j + 1) s' y2 hs' hsz (by omega) w2 (fr_tr hf (fr_mono (fun g hg => hg) f2))
  have hlast : ∀ {y : ow_MS}, fr F z y → y.2.1 114 U0.length = nI s0 ∧ s0 < gNN n := fun hf => sF hf (by rw [List.getElem?_append_right (Nat.le_refl _), Nat.sub_self]; rfl)
  have hf0 : fr F z (usF z 109 0) := fr_F (Or.inr rfl)
  have h113 : z.1 113 = nI (U0.length + 1) := by rw [hS.1.1, hSl]
  refine e_X13_cycle ?_
  refine u_X13_cycle_0 ?_; unfold qm_X13_cycle_0
  refine w_rdF h113 (w_rdF hk (w_wrF (w_ifF (by decide) ?_)))
  rw [show nI (U0.length + 1) - 1 = nI U0.length from (pk_sub (a := U0.length + 1) (b := 1) (by omega)).trans (by rw [Nat.add_sub_cancel])]
  refine w_rdI ml114 rfl (by omega) (hlast hf0).1 (w_cs1 (xr_turned h2 h5 (hlast hf0).2 (tF (toN hf0)) k1 k2) (fun v y1 ⟨e1, s2⟩ => ?_))
  have e1 : y1 = usF z 109 0 := e1
  have s2v : v = nI (tuG n κ s0) := s2
  have s1 := tu_lt (k := κ) h2 h5 (hlast hf0).2
  subst e1
  rw [s2v]
  refine w_cs0 (tp_append (L := []) h2 h5 s1 (tF (toN hf0)) ⟨po_usF_at, fun i a hi => by simp at hi⟩ (by decide)) (fun y2 ⟨w2, f2⟩ => ?_)
  refine u_X13_cycle_1 ?_; unfold qm_X13_cycle_1
  refine w_ifF (by decide) ?_
  refine u_X13_cycle_2 ?_; unfold qm_X13_cycle_2
  refine c3 U0.length 0 (tuG n κ s0) y2 s1 rfl (by omega) ?_ (fr_tr hf0 (fr_mono (fun g hg => hg) f2))
  rw [List.take_zero]
  have : (bsG n [tuG n κ s0]).flatten = [] ++ ltG n (tuG n κ s0) := by
    unfold bsG
    simp
  rw [this]
  exact w2
end XS1
end
section
/-! 99zzzzzzzzzzzzzzzn.xsm2 -/
/-! summit: the reference comes to the summit -/
section XS2
variable {z : ow_MS} {m : N5}
/-- no conjugate has more deltas in front; none is shorter -/
def nrs (a : Gn m) (k : Int) : Prop := ∀ x, ¬ rsd k (cnj x a)
def nls (a : Gn m) (s : Int) : Prop := ∀ x, ¬ gle (cnj x a) (gD m (s - 1))
def cqS (a : Gn m) (k : Int) (t : Nat) (b : Gn m) : Prop := ∃ s : Nat → Gn m, gle (gD m k) (s 0) ∧ (∀ j, j < t → ∃ i, isM (gm (s j) (gi (gD m k))) (gD m 1) i ∧ s (j + 1) = cnj i (s j)) ∧ (∀ j, j ≤ t → ¬ rsd k (s j)) ∧ s t = b ∧ ∀ j, j ≤ t → ∃ x, s j = cnj x a
def dqS (a : Gn m) (S : Int) (t : Nat) (b : Gn m) : Prop := ∃ s : Nat → Gn m, gle (s 0) (gD m S) ∧ (∀ j, j < t → ∃ i, isM (gm (gi (s j)) (gD m S)) (gD m 1) (gm (gi i) (gD m 1)) ∧ s (j + 1) = gm i (gm (s j) (gi i))) ∧ (∀ j, j ≤ t → ¬ gle (s j) (gD m (S - 1))) ∧ s t = b ∧ ∀ j, j ≤ t → ∃ x, s j = cnj x a
theorem cq_0 {a b : Gn m} {k : Int} (h1 : gle (gD m k) b) (h2 : ¬ rsd k b) (h3 : ∃ x, b = cnj x a) : cqS a k 0 b := ⟨fun _ => b, h1, fun j hj => absurd hj (Nat.not_lt_zero _), fun _ _ => h2, rfl, fun _ _ => h3⟩
theorem cq_s {a b i : Gn m} {k : Int} {t : Nat} (h : cqS a k t b) (hi : isM (gm b (gi (gD m k))) (gD m 1) i) (h2 : ¬ rsd k (cnj i b)) : cqS a k (t + 1) (cnj i b) := by
  obtain ⟨s, s1, s2, s3, s4, s5⟩ := h
  have e0 : ∀ j, j ≤ t → (fun j => if j ≤ t then s j else cnj i b) j = s j := fun j hj => if_pos hj
  have e1 : (fun j => if j ≤ t then s j else cnj i b) (t + 1) = cnj i b := if_neg (by omega)
  refine ⟨fun j => if j ≤ t then s j else cnj i b, ?_, fun j hj => ?_, fun j hj => ?_, e1, fun j hj => ?_⟩
  · rw [e0 0 (Nat.zero_le _)]
    exact s1
  · rw [e0 j (by omega)]
    by_cases c : j = t
    · rw [c, e1, s4]
      exact ⟨i, hi, rfl⟩
    · rw [e0 (j + 1) (by omega)]
      exact s2 j (by omega)
  · by_cases c : j = t + 1
    · rw [c, e1]
      exact h2
    · rw [e0 j (by omega)]
      exact s3 j (by omega)
  · by_cases c : j = t + 1
    · obtain ⟨x, hx⟩ := s5 t (Nat.le_refl _)
      refine ⟨gm x i, ?_⟩
      rw [c, e1, cnj_m, ← hx, s4]
    · rw [e0 j (by omega)]
      exact s5 j (by omega)
theorem cnj_all {a b x : Gn m} (h : b = cnj x a) (y : Gn m) : cnj y a = cnj (gm (gi x) y) b := by
  rw [h, ← cnj_m, gi_cr]
theorem cq_end {a b : Gn m} {k : Int} (h : cqS a k (szD m) b) : nrs a k := by
  obtain ⟨s, s1, s2, s3, s4, s5⟩ := h
  obtain ⟨x0, e0⟩ := s5 0 (Nat.zero_le _)
  intro x hx
  rw [cnj_all e0 x] at hx
  exact idle_c s1 s2 s3 _ hx
theorem dq_0 {a b : Gn m} {S : Int} (h1 : gle b (gD m S)) (h2 : ¬ gle b (gD m (S - 1))) (h3 : ∃ x, b = cnj x a) : dqS a S 0 b := ⟨fun _ => b, h1, fun j hj => absurd hj (Nat.not_lt_zero _), fun _ _ => h2, rfl, fun _ _ => h3⟩
theorem dq_s {a b i : Gn m} {S : Int} {t : Nat} (h : dqS a S t b) (hi : isM (gm (gi b) (gD m S)) (gD m 1) (gm (gi i) (gD m 1))) (h2 : ¬ gle (gm i (gm b (gi i))) (gD m (S - 1))) : dqS a S (t + 1) (gm i (gm b (gi i))) := by
  obtain ⟨s, s1, s2, s3, s4, s5⟩ := h
  have e0 : ∀ j, j ≤ t → (fun j => if j ≤ t then s j else gm i (gm b (gi i))) j = s j := fun j hj => if_pos hj
  have e1 : (fun j => if j ≤ t then s j else gm i (gm b (gi i))) (t + 1) = gm i (gm b (gi i)) := if_neg (by omega)
  refine ⟨fun j => if j ≤ t then s j else gm i (gm b (gi i)), ?_, fun j hj => ?_, fun j hj => ?_, e1, fun j hj => ?_⟩
  · rw [e0 0 (Nat.zero_le _)]
    exact s1
  · rw [e0 j (by omega)]
    by_cases c : j = t
    · rw [c, e1, s4]
      exact ⟨i, hi, rfl⟩
    · rw [e0 (j + 1) (by omega)]
      exact s2 j (by omega)
  · by_cases c : j = t + 1
    · rw [c, e1]
      exact h2
    · rw [e0 j (by omega)]
      exact s3 j (by omega)
  · by_cases c : j = t + 1
    · obtain ⟨x, hx⟩ := s5 t (Nat.le_refl _)
      refine ⟨gm x (gi i), ?_⟩
      rw [c, e1, cnj_m, ← hx, s4]
      unfold cnj
      rw [gi_i]
    · rw [e0 j (by omega)]
      exact s5 j (by omega)
theorem dq_end {a b : Gn m} {S : Int} (h : dqS a S (szD m) b) : nls a S := by
  obtain ⟨s, s1, s2, s3, s4, s5⟩ := h
  obtain ⟨x0, e0⟩ := s5 0 (Nat.zero_le _)
  intro x hx
  rw [cnj_all e0 x] at hx
  exact idle_d s1 s2 s3 _ hx
theorem glen_c (x a : Gn m) : glen (cnj x a) = glen a := by
  unfold cnj
  rw [glen_m, glen_m, glen_i]
  omega
theorem nrs_n {a : Gn m} {k : Int} {h : okT m.1 []} (e : ∃ x, gF m k [] h = cnj x a) : nrs a k ∧ nls a k := by
  obtain ⟨x, e⟩ := e
  have l := congrArg glen e
  unfold gF at l
  rw [glen_c, glen_m, glen_D, gL_nil, glen_1, Int.add_zero] at l
  have s1 := sz_D1 (m := m)
  constructor
  · intro y hy
    have := (gle_ln hy).1
    rw [glen_D, glen_c, ← l, Int.add_mul, Int.one_mul] at this
    omega
  · intro y hy
    have := (gle_ln hy).1
    rw [glen_D, glen_c, ← l, Int.sub_mul, Int.one_mul] at this
    omega
/-- a form at the summit of a braid's class -/
def smF (z1 : ow_MS) (m : N5) (a : Gn m) (k : Int) (F : List Nat) : Prop := fmI z1 m.1 F ∧ z1.1 112 = iI k ∧ F.length ≤ 16 ∧ -16 ≤ k ∧ k + (F.length : Int) ≤ 16 ∧ nfL m.1 F ∧ (∃ h x, gF m k F h = cnj x a) ∧ nrs a k ∧ nls a (k + (F.length : Int))
theorem xr_summitOf {b l : Nat} {w : Nat → Nat × Bool} {a : Gn m} (hb : b < 20) (hh : hBr z b m.1 l) (hT : tbG z) (hwd : ∀ i, i < l → (w i).1 + 1 < m.1 ∧ z.2.1 94 (16 * b + i) = lx9 (w i)) (ha : ∃ h, a = gF m (foT m.1 w l).2 (foT m.1 w l).1 h) (hw1 : -16 ≤ (foT m.1 w l).2) (hw2 : (foT m.1 w l).2 + ((foT m.1 w l).1.length : Int) ≤ 16) (hw3 : (foT m.1 w l).1.length ≤ 16) : Te (fun K => qe_X13_summitOf K (nI b) z) (fun z1 => (∃ k F, smF z1 m a k F) ∧ fr nmH z z1) := by
  have h2 := hh.1
  have h5 := hh.2.1
  have hN := nn_pos (n := m.1)
  obtain ⟨-, -, -, -, hm1, hm2⟩ := f_fiv h2 h5 (a := 0) (by omega)
  let Q : ow_MS → Prop := fun z1 => (∃ k F, smF z1 m a k F) ∧ fr nmH z z1
  have tF : ∀ {y : ow_MS}, fr nmH z y → tbG y := fun hf => tbG_fr hf (fun g hg => by unfold nmH at hg; omega) hT
  have hmo : szG m.1 (gNN m.1 - 1) = szD m := rfl
  rw [hmo] at hm1 hm2
  have c4 : ∀ (M d t : Nat) (F : List Nat) (k : Int) (y : ow_MS) (hF : okT m.1 F), F.length ≤ M → t + d = szD m → fmI y m.1 F → y.1 112 = iI k → F.length ≤ 16 → -16 ≤ k → k + (F.length : Int) ≤ 16 → nfL m.1 F → dqS a (k + (F.length : Int)) t (gF m k F hF) → nrs a k → fr nmH z y → Tt (fun K i => q_X13_summitOf K i 4 (nI b) (nI m.1) (nI (szD m)) (nI t) 0 0 y) Q := by
    intro M
    induction M using Nat.strongRecOn with
    | ind M ihM =>
    intro d
    induction d with
    | zero =>
      intro t F k y hF hM ht hS hk hl k1 k2 hn hq hr hf
      have ht : t = szD m := by omega
      subst ht
      have := hq
      obtain ⟨s, s1, s2, s3, s4, s5⟩ := this
      obtain ⟨x, hx⟩ := s5 _ (Nat.le_refl _)
      refine u_X13_summitOf_4 ?_; unfold qm_X13_summitOf_4
      exact w_leT (by omega) (by omega) (w_some ⟨⟨k, F, hS, hk, hl, k1, k2, hn, ⟨hF, x, s4.symm.trans hx⟩, hr, dq_end hq⟩, hf⟩)
    | succ d ih =>
      intro t F k y hF hM ht hS hk hl k1 k2 hn hq hr hf
      have hcx : ∃ x, gF m k F hF = cnj x a := by
        obtain ⟨s, s1, s2, s3, s4, s5⟩ := hq
        obtain ⟨x, hx⟩ := s5 _ (Nat.le_refl _)
        exact ⟨x, s4.symm.trans hx⟩
      refine u_X13_summitOf_4 ?_; unfold qm_X13_summitOf_4
      refine w_leF (by omega) (by omega) (w_rdF hS.1.1 (w_le (b := 0) (by omega) (by omega) (fun h0 => ?_) (fun hpos => ?_)))
      · have e0 : F = [] := List.eq_nil_of_length_eq_zero (by omega)
        subst e0
        have := nrs_n hcx
        refine w_some ⟨⟨k, [], hS, hk, hl, k1, k2, hn, ⟨hF, hcx⟩, hr, ?_⟩, hf⟩
        show nls a (k + 0)
        rw [Int.add_zero]
        exact this.2
      · obtain ⟨U0, s0, eF⟩ : ∃ U0 s0, F = U0 ++ [s0] := by
          rcases List.eq_nil_or_concat F with h9 | ⟨G, c, h9⟩
          · rw [h9] at hpos
            exact absurd hpos (by decide)
          · exact ⟨G, c, by rw [h9, List.concat_eq_append]⟩
        refine w_rdF hk (w_rdF hS.1.1 (w_cs0 (xr_cyc1 eF (tF hf) hS hl hk (by omega) (by omega)) (fun y1 ⟨⟨j, F', f1, f2, f3, f4, f5⟩, f6⟩ => ?_)))
        subst eF
        obtain ⟨q1, q2, q3, q4⟩ := dcy_F (k := k) (h := hF) hn
        have e1 := F_eq (m := m) (k := k) (hT := q2) (hF := f1.1) f2
        rw [e1] at q4
        have len1 : (U0 ++ [s0]).length = U0.length + 1 := by rw [List.length_append]; rfl
        rw [List.length_cons] at f5
        rw [len1] at hM hl k2 hq
        have hcx' : ∃ x, gF m (k + (j : Int)) F' f1.1 = cnj x a := by
          obtain ⟨x, hx⟩ := hcx
          refine ⟨gm x (gi (gL m [s0] q1)), ?_⟩
          rw [cnj_m, ← hx, ← q4]
          unfold cnj
          rw [gi_i]
        have j0 : j = 0 := by
          refine Classical.byContradiction (fun hne => ?_)
          obtain ⟨x, hx⟩ := hcx'
          refine hr x ?_
          rw [← hx]
          exact (inf_F f1).mpr (by omega)
        subst j0
        have ek : k + ((0 : Nat) : Int) = k := Int.add_zero k
        rw [ek] at q4 f4 hcx'
        refine w_rdF f4 (w_rdF f3.1.1 (w_if (fun hle => ?_) (fun hgt => ?_)))
        · rw [len1, nI_iI, nI_iI, iI_add, iI_add, iI_le (by omega) (by omega) (by omega) (by omega)] at hle
          have el : F'.length = U0.length + 1 := by omega
          refine u_X13_summitOf_5 ?_; unfold qm_X13_summitOf_5
          rw [nI_1]
          refine ih (t + 1) F' k y1 f1.1 (by omega) (by omega) f3 f4 (by omega) k1 (by omega) f1 ?_ hr (fr_tr hf f6)
          rw [el, ← q4]
          refine dq_s hq q3 ?_
          rw [q4]
          intro h9
          have := (sup_F f1).mp h9
          omega
        · rw [len1, nI_iI, nI_iI, iI_add, iI_add, iI_le (by omega) (by omega) (by omega) (by omega)] at hgt
          refine u_X13_summitOf_5 ?_; unfold qm_X13_summitOf_5
          refine ihM F'.length (by omega) (szD m) 0 F' k y1 f1.1 (Nat.le_refl _) (by omega) f3 f4 (by omega) k1 (by omega) f1 (dq_0 ((sup_F f1).mpr (Int.le_refl _)) (fun h9 => ?_) hcx') hr (fr_tr hf f6)
          have := (sup_F f1).mp h9
          omega
  have c3 : ∀ (x4 : Int32) (F : List Nat) (k : Int) (y : ow_MS) (hF : okT m.1 F), fmI y m.1 F → y.1 112 = iI k → F.length ≤ 16 → -16 ≤ k → k + (F.length : Int) ≤ 16 → nfL m.1 F → (∃ x, gF m k F hF = cnj x a) → nrs a k → fr nmH z y → Tt (fun K i => q_X13_summitOf K i 3 (nI b) (nI m.1) (nI (szD m)) x4 0 0 y) Q := by
    intro x4 F k y hF hS hk hl k1 k2 hn hx hr hf
    refine u_X13_summitOf_3 ?_; unfold qm_X13_summitOf_3
    refine c4 F.length (szD m) 0 F k y hF (Nat.le_refl _) (by omega) hS hk hl k1 k2 hn (dq_0 ((sup_F hn).mpr (Int.le_refl _)) (fun h9 => ?_) hx) hr hf
    have := (sup_F hn).mp h9
    omega
  have c1 : ∀ (M d t : Nat) (F : List Nat) (k : Int) (y : ow_MS) (hF : okT m.1 F), (16 - k).toNat ≤ M → t + d = szD m → fmI y m.1 F → y.1 112 = iI k → F.length ≤ 16 → -16 ≤ k → k + (F.length : Int) ≤ 16 → nfL m.1 F → cqS a k t (gF m k F hF) → fr nmH z y → Tt (fun K i => q_X13_summitOf K i 1 (nI b) (nI m.1) (nI (szD m)) (nI t) 0 0 y) Q := by
    intro M
    induction M using Nat.strongRecOn with
    | ind M ihM =>
    intro d
    induction d with
    | zero =>
      intro t F k y hF hM ht hS hk hl k1 k2 hn hq hf
      have ht : t = szD m := by omega
      subst ht
      have := hq
      obtain ⟨s, s1, s2, s3, s4, s5⟩ := this
      obtain ⟨x, hx⟩ := s5 _ (Nat.le_refl _)
      refine u_X13_summitOf_1 ?_; unfold qm_X13_summitOf_1
      exact w_leT (by omega) (by omega) (c3 _ F k y hF hS hk hl k1 k2 hn ⟨x, s4.symm.trans hx⟩ (cq_end hq) hf)
    | succ d ih =>
      intro t F k y hF hM ht hS hk hl k1 k2 hn hq hf
      have hcx : ∃ x, gF m k F hF = cnj x a := by
        obtain ⟨s, s1, s2, s3, s4, s5⟩ := hq
        obtain ⟨x, hx⟩ := s5 _ (Nat.le_refl _)
        exact ⟨x, s4.symm.trans hx⟩
      refine u_X13_summitOf_1 ?_; unfold qm_X13_summitOf_1
      refine w_leF (by omega) (by omega) (w_rdF hS.1.1 (w_le (b := 0) (by omega) (by omega) (fun h0 => ?_) (fun hpos => ?_)))
      · have e0 : F = [] := List.eq_nil_of_length_eq_zero (by omega)
        subst e0
        exact c3 _ [] k y hF hS hk hl k1 k2 hn hcx (nrs_n hcx).1 hf
      · obtain ⟨s0, U0, eF⟩ : ∃ s0 U0, F = s0 :: U0 := by
          cases F with
          | nil => exact absurd hpos (by decide)
          | cons c G => exact ⟨c, G, rfl⟩
        refine w_rdF hk (w_cs0 (xr_cyc0 eF (tF hf) hS hl hk (by omega) (by omega)) (fun y1 ⟨⟨j, F', f1, f2, f3, f4, f5⟩, f6⟩ => ?_))
        subst eF
        obtain ⟨q1, q2, q3, q4⟩ := cyc_F (k := k) (h := hF) hn
        have e1 := F_eq (m := m) (k := k) (hT := q2) (hF := f1.1) f2
        rw [e1] at q4
        rw [List.length_append, List.length_singleton] at f5
        rw [List.length_cons] at hl k2
        have hcx' : ∃ x, gF m (k + (j : Int)) F' f1.1 = cnj x a := by
          obtain ⟨x, hx⟩ := hcx
          refine ⟨gm x (gL m [tuG m.1 k s0] q1), ?_⟩
          rw [cnj_m, ← hx, ← q4]
        refine w_rdF f4 (w_if (fun hle => ?_) (fun hgt => ?_))
        · rw [iI_le (by omega) (by omega) (by omega) (by omega)] at hle
          have j0 : j = 0 := by omega
          subst j0
          have ek : k + ((0 : Nat) : Int) = k := Int.add_zero k
          rw [ek] at q4 f4
          refine u_X13_summitOf_2 ?_; unfold qm_X13_summitOf_2
          rw [nI_1]
          refine ih (t + 1) F' k y1 f1.1 (by omega) (by omega) f3 f4 (by omega) k1 (by omega) f1 ?_ (fr_tr hf f6)
          rw [← q4]
          refine cq_s hq q3 ?_
          rw [q4]
          intro h9
          have := (inf_F f1).mp h9
          omega
        · rw [iI_le (by omega) (by omega) (by omega) (by omega)] at hgt
          refine u_X13_summitOf_2 ?_; unfold qm_X13_summitOf_2
          refine ihM (16 - (k + (j : Int))).toNat (by omega) (szD m) 0 F' (k + (j : Int)) y1 f1.1 (Nat.le_refl _) (by omega) f3 f4 (by omega) (by omega) (by omega) f1 (cq_0 ((inf_F f1).mpr (Int.le_refl _)) (fun h9 => ?_) hcx') (fr_tr hf f6)
          have := (inf_F f1).mp h9
          omega
  obtain ⟨h0, ea⟩ := ha
  obtain ⟨j, F, f1, f2⟩ := nf_ex h0
  have e1 := F_eq (m := m) (k := (foT m.1 w l).2) (hT := h0) (hF := f1.1) f2
  have sl : F.length + j ≤ (foT m.1 w l).1.length := by
    have e := F_eq (m := m) (k := 0) (hT := h0) (hF := f1.1) f2
    have a1 : gle (gF m 0 (foT m.1 w l).1 h0) (gD m ((foT m.1 w l).1.length : Int)) := by
      unfold gF
      have : gD m 0 = g1 m := rfl
      rw [this, g1_l]
      exact sup_le _
    rw [e] at a1
    have := (sup_F f1).mp a1
    omega
  refine e_X13_summitOf ?_
  refine u_X13_summitOf_0 ?_; unfold qm_X13_summitOf_0
  refine w_cs0 (te_and (tp_formOf hb hh hT) (xr_formOf hb hh hT hwd f1 f2)) (fun y ⟨⟨_, f9⟩, u1, u2⟩ => ?_)
  have e96 : y.2.1 96 b = nI m.1 := by rw [(f9 96 (by unfold nmH; omega)).2.1]; exact hh.2.2.2.1
  have hTy := (tF f9) m.1 h2 h5
  have hTd := (hTy.2 (gNN m.1 - 1) (by omega)).1
  rw [hmo] at hTd
  refine w_rdI ml96 rfl (by omega) e96 (w_rdI ml97 rfl (by omega) hTy.1 (w_rdI (i := 120 * m.1 + (gNN m.1 - 1)) ml100 (by rw [ix120, show nI (120 * m.1 + gNN m.1) - 1 = nI (120 * m.1 + gNN m.1 - 1) from pk_sub (b := 1) (by omega)]; congr 1; omega) (by omega) hTd ?_))
  refine c1 (16 - ((foT m.1 w l).2 + (j : Int))).toNat (szD m) 0 F ((foT m.1 w l).2 + (j : Int)) y f1.1 (Nat.le_refl _) (by omega) u1 u2 (by omega) (by omega) (by omega) f1 (cq_0 ((inf_F f1).mpr (Int.le_refl _)) (fun h9 => ?_) ⟨g1 m, ?_⟩) f9
  · have := (inf_F f1).mp h9
    omega
  · rw [cnj_1, ea, e1]
end XS2
end
section
/-! 99zzzzzzzzzzzzzzzo.xsm3 -/
/-! summit: the reference finds the whole set -/
section XS3
variable {z : ow_MS} {m : N5}
def sss (a : Gn m) (k : Int) (R : Nat) (F : List Nat) : Prop := nfL m.1 F ∧ F.length = R ∧ ∃ h x, gF m k F h = cnj x a
def afL (y : ow_MS) (n : Nat) (Ls : List (List Nat)) (k : Int) : Prop := y.1 116 = nI Ls.length ∧ ∀ i S, Ls[i]? = some S → frwI y 115 (40 * i) n S k
theorem afL_fr {P : Nat → Prop} {y y1 : ow_MS} {n : Nat} {Ls : List (List Nat)} {k : Int} (hf : fr P y y1) (h1 : ¬ P 115) (h2 : ¬ P 116) (h : afL y n Ls k) : afL y1 n Ls k := ⟨by rw [(hf 116 h2).1]; exact h.1, fun i S hi => frwI_fr hf h1 (h.2 i S hi)⟩
theorem xr_isThere {n r : Nat} {S : List Nat} {Ls : List (List Nat)} {k k2 : Int} (hr : r = 117 ∨ r = 118) (hF : Ls.length ≤ 200) (hA : afL z n Ls k) (hL : ∀ F, F ∈ Ls → F.length ≤ 38) (hS : frwI z r 0 n S k2) (hl : S.length ≤ 38) (b1 : -100 ≤ k) (b2 : k ≤ 100) (b3 : -100 ≤ k2) (b4 : k2 ≤ 100) : Te (fun K => qe_X13_isThere K r z) (fun o => o.2 = z ∧ (o.1 = 1 ∧ k2 = k ∧ S ∈ Ls ∨ o.1 = 0 ∧ ¬ (k2 = k ∧ S ∈ Ls))) := by
  have hrl : (mX.2 r).2.1 = 40 := by
    rcases hr with rfl | rfl
    · exact ml117
    · exact ml118
  let Q : Int32 × ow_MS → Prop := fun o => o.2 = z ∧ (o.1 = 1 ∧ k2 = k ∧ S ∈ Ls ∨ o.1 = 0 ∧ ¬ (k2 = k ∧ S ∈ Ls))
  have fin1 : ∀ (i : Nat), (k2 = k ∧ S ∈ Ls) → Tt (fun K t => q_X13_isThere K t 1 1 (nI i) r z) Q := by
    intro i h
    refine u_X13_isThere_1 ?_; unfold qm_X13_isThere_1
    exact w_rdF hA.1 (w_if (fun _ => w_okZ (Or.inr rfl) (w_some ⟨rfl, Or.inl ⟨rfl, h⟩⟩)) (fun _ => w_ifF (by decide) (w_okZ (Or.inr rfl) (w_some ⟨rfl, Or.inl ⟨rfl, h⟩⟩))))
  have key : ∀ (d i : Nat), i + d = Ls.length → (∀ j, j < i → ¬ (k2 = k ∧ Ls[j]? = some S)) → Tt (fun K t => q_X13_isThere K t 1 0 (nI i) r z) Q := by
    intro d
    induction d with
    | zero =>
      intro i hi hx
      refine u_X13_isThere_1 ?_; unfold qm_X13_isThere_1
      refine w_rdF hA.1 (w_leT (by omega) (by omega) (w_okZ (Or.inl rfl) (w_some ⟨rfl, Or.inr ⟨rfl, fun ⟨e1, e2⟩ => ?_⟩⟩)))
      obtain ⟨j, hj⟩ := List.getElem?_of_mem e2
      have := (List.getElem?_eq_some_iff.mp hj).1
      exact hx j (by omega) ⟨e1, hj⟩
    | succ d ih =>
      intro i hi hx
      have hil : i < Ls.length := by omega
      have e9 : Ls[i]? = some Ls[i] := List.getElem?_eq_getElem hil
      have hlen := hL _ (List.getElem_mem hil)
      refine u_X13_isThere_1 ?_; unfold qm_X13_isThere_1
      rw [show (40 : Int32) * nI i = nI (40 * i) from pk_mul 40 i, nI_1]
      refine w_rdF hA.1 (w_leF (by omega) (by omega) (w_ifT rfl (w_cs1 (xr_isForm (i := 0) (j := 40 * i) hrl ml115 (by omega) (by omega) (by omega) (by omega) hS (hA.2 i _ e9)) (fun v y1 ⟨e1, e2⟩ => ?_))))
      have e1 : y1 = z := e1
      subst e1
      rcases e2 with ⟨v1, v2, v3⟩ | ⟨v1, v2⟩
      · have v1 : v = 1 := v1
        rw [v1]
        exact fin1 (i + 1) ⟨(iI_eq (by omega) (by omega) (by omega) (by omega)).mp v2, by rw [v3]; exact List.getElem_mem hil⟩
      · have v1 : v = 0 := v1
        rw [v1]
        refine ih (i + 1) (by omega) (fun j hj h9 => ?_)
        by_cases ej : j = i
        · rw [ej, e9] at h9
          exact v2 ⟨by rw [h9.1], (Option.some.inj h9.2).symm⟩
        · exact hx j (by omega) h9
  refine e_X13_isThere ?_
  refine u_X13_isThere_0 ?_; unfold qm_X13_isThere_0
  exact key Ls.length 0 (by omega) (fun j hj => absurd hj (Nat.not_lt_zero _))
def cloS9 (m : N5) (k : Int) (R : Nat) (Ls : List (List Nat)) (i s : Nat) : Prop := ∀ F h, Ls[i]? = some F → ∀ t (ht : okT m.1 [t]), 1 ≤ t → t < s → t < gNN m.1 → ∀ G hG, nfL m.1 G → G.length = R → gF m k G hG = cnj (gL m [t] ht) (gF m k F h) → G ∈ Ls
theorem clo_m {k : Int} {R : Nat} {Ls : List (List Nat)} {i s : Nat} {G : List Nat} (hi : i < Ls.length) (h : cloS9 m k R Ls i s) : cloS9 m k R (Ls ++ [G]) i s := fun F hF e t ht t1 t2 t3 G' hG g1 g2 g3 => by
  rw [List.getElem?_append_left hi] at e
  exact List.mem_append_left _ (h F hF e t ht t1 t2 t3 G' hG g1 g2 g3)
/-- what is closed is all -/
theorem clo_all {a : Gn m} {k : Int} {R : Nat} {Ls : List (List Nat)} (hr : nrs a k) (hu : nls a (k + (R : Int))) (h0 : ∃ F, F ∈ Ls) (hs : ∀ F, F ∈ Ls → sss a k R F) (hc : ∀ i, i < Ls.length → cloS9 m k R Ls i (gNN m.1)) (F : List Nat) (hF : sss a k R F) : F ∈ Ls := by
  obtain ⟨F0, m0⟩ := h0
  obtain ⟨n0, l0, h0, x0, e0⟩ := hs F0 m0
  obtain ⟨n1, l1, h1, x1, e1⟩ := hF
  have k1 := sss_all (m := m) (k := k) (S := k + (R : Int)) (C := fun b => ∃ G h, G ∈ Ls ∧ b = gF m k G h) (fun b t ht ⟨G, hG, mG, eG⟩ t1 t0 lo up => ?_) (b := gF m k F0 h0) ⟨F0, h0, m0, rfl⟩ ((inf_F n0).mpr (Int.le_refl _)) ((sup_F n0).mpr (by omega)) (x := gm (gi x0) x1) ?_ ?_
  · obtain ⟨G, hG, mG, eG⟩ := k1
    rw [e0, ← cnj_all rfl x1, ← e1] at eG
    rw [(F_uni n1 (hs G mG).1 eG).2]
    exact mG
  · obtain ⟨k', G', h', n', e'⟩ := F_ex (cnj (gL m [t] ht) b)
    obtain ⟨nG, lG, hG2, x, ex⟩ := hs G mG
    have ecn : cnj (gL m [t] ht) b = cnj (gm x (gL m [t] ht)) a := by
      rw [cnj_m, ← ex, eG]
    rw [e'] at lo up
    have a1 := (inf_F n').mp lo
    have a2 := (sup_F n').mp up
    have a3 : k' = k := by
      rcases Int.lt_or_le k k' with h9 | h9
      · exfalso
        refine hr (gm x (gL m [t] ht)) ?_
        rw [← ecn, e']
        exact (inf_F n').mpr (by omega)
      · omega
    subst a3
    have a4 : G'.length = R := by
      rcases Nat.lt_or_ge G'.length R with h9 | h9
      · exfalso
        refine hu (gm x (gL m [t] ht)) ?_
        rw [← ecn, e']
        exact (sup_F n').mpr (by omega)
      · omega
    obtain ⟨i, hi⟩ := List.getElem?_of_mem mG
    refine ⟨G', h', hc i (List.getElem?_eq_some_iff.mp hi).1 G hG hi t ht (by omega) t1 t1 G' h' n' a4 ?_, e'⟩
    rw [← e', eG]
  · rw [e0, ← cnj_all rfl x1, ← e1]
    exact (inf_F n1).mpr (Int.le_refl _)
  · rw [e0, ← cnj_all rfl x1, ← e1]
    exact (sup_F n1).mpr (by omega)
def smB (a : Gn m) (k : Int) (R : Nat) : Prop := ∃ Ls : List (List Nat), Ls.Nodup ∧ Ls.length = 201 ∧ ∀ F, F ∈ Ls → sss a k R F
theorem xr_allForms {a : Gn m} {k : Int} {F0 : List Nat} (hT : tbG z) (hI : smF z m a k F0) : Te (fun K => qe_X13_allForms K (nI m.1) z) (fun o => ((o.1 = 1 ∧ ∃ Ls, afL o.2 m.1 Ls k ∧ Ls.length ≤ 200 ∧ Ls.Nodup ∧ ∀ F, F ∈ Ls ↔ sss a k F0.length F) ∨ o.1 = 0 ∧ smB a k F0.length) ∧ fr afH z o.2) := by
  have h2 := m.2.1
  have h5 := m.2.2
  have hN := nn_pos (n := m.1)
  obtain ⟨s1, s3, s2, s4, s5, s6, ⟨h0, x0, e0⟩, s8, s9⟩ := hI
  generalize hR : F0.length = R at s2 s5 s9
  let Q : Int32 × ow_MS → Prop := fun o => ((o.1 = 1 ∧ ∃ Ls, afL o.2 m.1 Ls k ∧ Ls.length ≤ 200 ∧ Ls.Nodup ∧ ∀ F, F ∈ Ls ↔ sss a k R F) ∨ o.1 = 0 ∧ smB a k R) ∧ fr afH z o.2
  have tF : ∀ {y : ow_MS}, fr afH z y → tbG y := fun hf => tbG_fr hf (fun g hg => by unfold afH at hg; omega) hT
  have nmA : ∀ {y y1 : ow_MS}, fr afH z y → fr nmH y y1 → fr afH z y1 := fun h1 h3 => fr_tr h1 (fr_mono (fun g hg => by unfold nmH at hg; unfold afH; omega) h3)
  have c1 : ∀ (d at9 : Nat) (Ls : List (List Nat)) (y : ow_MS), at9 + d = 200 → at9 ≤ Ls.length → Ls.length ≤ 200 → 1 ≤ Ls.length → Ls.Nodup → (∀ F, F ∈ Ls → sss a k R F) → (∀ i, i < at9 → cloS9 m k R Ls i (gNN m.1)) → afL y m.1 Ls k → fr afH z y → Tt (fun K i => q_X13_allForms K i 1 (nI m.1) (nI at9) 0 0 0 y) Q := by
    intro d
    have fin : ∀ (Ls : List (List Nat)) (y : ow_MS), Ls.length ≤ 200 → 1 ≤ Ls.length → Ls.Nodup → (∀ F, F ∈ Ls → sss a k R F) → (∀ i, i < Ls.length → cloS9 m k R Ls i (gNN m.1)) → afL y m.1 Ls k → fr afH z y → Q (1, y) := fun Ls y hL h1 hnd hs hc hA hf => ⟨Or.inl ⟨rfl, Ls, hA, hL, hnd, fun F => ⟨hs F, clo_all s8 s9 ⟨Ls[0], List.getElem_mem (by omega)⟩ hs hc F⟩⟩, hf⟩
    induction d with
    | zero =>
      intro at9 Ls y ha haL hL h1 hnd hs hc hA hf
      refine u_X13_allForms_1 ?_; unfold qm_X13_allForms_1
      exact w_rdF hA.1 (w_leT (by omega) (by omega) (w_okZ (Or.inr rfl) (w_some (fin Ls y hL h1 hnd hs (fun i hi => hc i (by omega)) hA hf))))
    | succ d ih =>
      intro at9 Ls y ha haL hL h1 hnd hs hc hA hf
      refine u_X13_allForms_1 ?_; unfold qm_X13_allForms_1
      refine w_rdF hA.1 (w_le (by omega) (by omega) (fun h9 => w_okZ (Or.inr rfl) (w_some (fin Ls y hL h1 hnd hs (fun i hi => hc i (by omega)) hA hf))) (fun hlt => ?_))
      have c2 : ∀ (d2 s : Nat) (Ls : List (List Nat)) (y : ow_MS), s + d2 = gNN m.1 → 1 ≤ s → at9 < Ls.length → Ls.length ≤ 200 → Ls.Nodup → (∀ F, F ∈ Ls → sss a k R F) → (∀ i, i < at9 → cloS9 m k R Ls i (gNN m.1)) → cloS9 m k R Ls at9 s → afL y m.1 Ls k → fr afH z y → Tt (fun K i => q_X13_allForms K i 2 (nI m.1) (nI at9) (nI s) 0 0 y) Q := by
        intro d2
        induction d2 with
        | zero =>
          intro s Ls y hs9 hs1 haL hL hnd hs hc hcs hA hf
          have es : s = gNN m.1 := by omega
          subst es
          refine u_X13_allForms_2 ?_; unfold qm_X13_allForms_2
          rw [show nI at9 + 1 = nI (at9 + 1) from nI_1 _]
          refine w_rdI ml97 rfl (by omega) ((tF hf) m.1 h2 h5).1 (w_leT (by omega) (by omega) (ih (at9 + 1) Ls y (by omega) (by omega) hL (by omega) hnd hs (fun i hi => ?_) hA hf))
          by_cases ei : i = at9
          · rw [ei]
            exact hcs
          · exact hc i (by omega)
        | succ d2 ih2 =>
          intro s Ls y hs9 hs1 haL hL hnd hs hc hcs hA hf
          have hsl : s < gNN m.1 := by omega
          have hah := (f_one h2 h5 hsl).2.1
          obtain ⟨Sa, eSa⟩ : ∃ Sa, Ls[at9]? = some Sa := ⟨_, List.getElem?_eq_getElem haL⟩
          have fa := hA.2 at9 Sa eSa
          obtain ⟨na, la, hSa, xa, exa⟩ := hs Sa (List.mem_of_getElem? eSa)
          have hs1k : okT m.1 [s] := okT_c.mpr ⟨hsl, okT_n⟩
          have c4 : ∀ (x4 x5 : Int32) (Ls : List (List Nat)) (y : ow_MS), at9 < Ls.length → Ls.length ≤ 200 → Ls.Nodup → (∀ F, F ∈ Ls → sss a k R F) → (∀ i, i < at9 → cloS9 m k R Ls i (gNN m.1)) → cloS9 m k R Ls at9 (s + 1) → afL y m.1 Ls k → fr afH z y → Tt (fun K i => q_X13_allForms K i 4 (nI m.1) (nI at9) (nI s) x4 x5 y) Q := by
            intro x4 x5 Ls y q1 q2 q3 q4 q5 q6 q7 q8
            refine u_X13_allForms_4 ?_; unfold qm_X13_allForms_4
            rw [show nI s + 1 = nI (s + 1) from nI_1 _]
            exact ih2 (s + 1) Ls y (by omega) (by omega) q1 q2 q3 q4 q5 q6 q7 q8
          have ht := tu_lt (k := k) h2 h5 hah
          have bdd : ∀ (j : Nat), (bsG m.1 (tuG m.1 k (ahG m.1 s) :: Sa.take j)).flatten.length ≤ 200 := by
            intro j
            have h3 := (bl_len h2 h5 (bsG m.1 (tuG m.1 k (ahG m.1 s) :: Sa.take j)) (bs_bl h2 h5 (fun s hs => by
              rcases List.mem_cons.mp hs with h9 | h9
              · rw [h9]; exact ht
              · exact na.1 s (List.mem_of_mem_take h9)))).1
            have h4 : (bsG m.1 (tuG m.1 k (ahG m.1 s) :: Sa.take j)).length ≤ R + 1 := by
              unfold bsG
              rw [List.length_map, List.length_cons, List.length_take]
              omega
            omega
          have c3 : ∀ (d3 j : Nat) (y : ow_MS), j + d3 = R → afL y m.1 Ls k → lnI y 109 108 (bsG m.1 (tuG m.1 k (ahG m.1 s) :: Sa.take j)).flatten → fr afH z y → Tt (fun K i => q_X13_allForms K i 3 (nI m.1) (nI at9) (nI s) (iI k) (nI j) y) Q := by
            intro d3
            induction d3 with
            | zero =>
              intro j y hj hA hw hf
              have hj : j = Sa.length := by omega
              subst hj
              have hfa := hA.2 at9 Sa eSa
              have hb9 := bdd Sa.length
              rw [List.take_length] at hw hb9
              refine u_X13_allForms_3 ?_; unfold qm_X13_allForms_3
              rw [show (40 : Int32) * nI at9 = nI (40 * at9) from pk_mul 40 _, nI_1]
              refine w_rdI ml115 rfl (by omega) hfa.2.1 (w_leT (by omega) (Nat.le_refl _) (w_cs0 (tp_append h2 h5 hsl (tF hf) hw (by omega)) (fun y1 ⟨w1, f1⟩ => ?_)))
              rw [← bs_app] at w1
              have hf1 : fr afH z y1 := fr_tr hf (fr_mono (fun g hg => by unfold afH; omega) f1)
              have hA1 := afL_fr f1 (by omega) (by omega) hA
              have hUk : okT m.1 (tuG m.1 k (ahG m.1 s) :: Sa ++ [s]) := okT_a.mpr ⟨okT_c.mpr ⟨ht, na.1⟩, hs1k⟩
              have e9 : iI k - 1 = iI (k - 1) := by
                show iI k - iI 1 = _
                rw [iI_sub]
              rw [e9]
              refine w_cs0 (xr_nmU (U := tuG m.1 k (ahG m.1 s) :: Sa ++ [s]) (tF hf1) hUk ?_ w1) (fun y2 ⟨⟨j2, F', b1, b2, b3, b4, b5⟩, b6⟩ => ?_)
              · rw [List.length_append, List.length_cons]
                show Sa.length + 1 + 1 ≤ 18
                omega
              · rw [List.length_append, List.length_cons] at b5
                have b5 : F'.length + j2 ≤ Sa.length + 1 + 1 := b5
                have hf2 := nmA hf1 b6
                have hA2 := afL_fr b6 (by unfold nmH; omega) (by unfold nmH; omega) hA1
                have eG : cnj (gL m [s] hs1k) (gF m k Sa hSa) = gF m (k - 1 + (j2 : Int)) F' b1.1 := (cj_F hsl (h3 := hUk)).trans (F_eq b2)
                obtain ⟨Sz, eSz⟩ : ∃ Sz, Ls[0]? = some Sz := ⟨_, List.getElem?_eq_getElem (by omega)⟩
                have fz := hA2.2 0 Sz eSz
                have lz := (hs Sz (List.mem_of_getElem? eSz)).2.1
                -- where the form is another one
                have oth : ∀ {Ls9 : List (List Nat)} {y9 : ow_MS} {x4 x5 : Int32}, Ls9 = Ls → afL y9 m.1 Ls k → fr afH z y9 → (k - 1 + (j2 : Int) = k → F'.length = R → F' ∈ Ls) → Tt (fun K i => q_X13_allForms K i 4 (nI m.1) (nI at9) (nI s) x4 x5 y9) Q := by
                  intro Ls9 y9 x4 x5 _ hA9 hf9 hin
                  refine c4 _ _ Ls y9 haL hL hnd hs hc (fun F hF9 eF t ht9 t1 t2 t3 G hG g1 g2 g3 => ?_) hA9 hf9
                  by_cases et : t = s
                  · subst et
                    have eFS : F = Sa := Option.some.inj (eF.symm.trans eSa)
                    subst eFS
                    rw [eG] at g3
                    obtain ⟨u1, u2⟩ := F_uni g1 b1 g3
                    rw [u2]
                    exact hin u1.symm (by rw [← u2]; exact g2)
                  · exact hcs F hF9 eF t ht9 t1 (by omega) t3 G hG g1 g2 g3
                refine w_rdF b4 (w_rdI (i := 0) ml115 rfl (by omega) fz.1 (w_if (fun hkk => w_rdF b3.1.1 (w_rdI (i := 1) ml115 rfl (by omega) fz.2.1 (w_eqN (by omega) (by omega) (fun hrr => ?_) (fun hrr => oth rfl hA2 hf2 (fun _ h9 => absurd (h9.trans lz.symm) hrr))))) (fun hkk => oth rfl hA2 hf2 (fun h9 => absurd (by rw [h9]) hkk))))
                have ekk : k - 1 + (j2 : Int) = k := (iI_eq (by omega) (by omega) (by omega) (by omega)).mp hkk
                have hrR : F'.length = R := hrr.trans lz
                have b4' : y2.1 112 = iI k := by rw [b4, ekk]
                refine w_cs0 (tp_formTo (r := 117) (o := 0) ml117 (by omega) (by omega) (by omega) (by omega) b3 b4') (fun y3 ⟨q1, q2, _⟩ => ?_)
                have hf3 : fr afH z y3 := fr_tr hf2 (fr_mono (fun g hg => by unfold afH; omega) q2)
                have hA3 := afL_fr q2 (by omega) (by omega) hA2
                have b3' : fmI y3 m.1 F' := ⟨lnI_fr q2 (by omega) (by omega) b3.1, b3.2⟩
                have hk3 : y3.1 112 = iI k := by rw [(q2 112 (by omega)).1]; exact b4'
                have hL38 : ∀ F, F ∈ Ls → F.length ≤ 38 := fun F hF => by have := (hs F hF).2.1; omega
                refine w_cs1 (xr_isThere (r := 117) (Or.inl rfl) hL hA3 hL38 q1 (by omega) (by omega) (by omega) (by omega) (by omega)) (fun v y4 ⟨e4, h4⟩ => ?_)
                have e4 : y4 = y3 := e4
                subst e4
                have sF' : sss a k R F' := by
                  rw [ekk] at eG
                  refine ⟨b1, hrR, b1.1, gm xa (gL m [s] hs1k), ?_⟩
                  rw [← eG, cnj_m, ← exa]
                rcases h4 with ⟨v1, -, v3⟩ | ⟨v1, v2⟩
                · have v1 : v = 1 := v1
                  rw [v1]
                  exact w_ifF (by decide) (oth rfl hA3 hf3 (fun _ _ => v3))
                · have v1 : v = 0 := v1
                  have nin : F' ∉ Ls := fun h9 => v2 ⟨rfl, h9⟩
                  have nd' : (Ls ++ [F']).Nodup := List.nodup_append.mpr ⟨hnd, List.nodup_cons.mpr ⟨List.not_mem_nil, List.nodup_nil⟩, fun x hx y hy e => nin (by rw [List.mem_singleton.mp hy] at e; rw [← e]; exact hx)⟩
                  have s' : ∀ F, F ∈ Ls ++ [F'] → sss a k R F := fun F hF => (List.mem_append.mp hF).elim (hs F) (fun h9 => by rw [List.mem_singleton.mp h9]; exact sF')
                  rw [v1]
                  refine w_ifT rfl (w_rdF hA3.1 (w_eqN (b := 200) (by omega) (by omega) (fun h200 => w_okZ (Or.inl rfl) (w_some ⟨Or.inr ⟨rfl, Ls ++ [F'], nd', by rw [List.length_append, h200]; rfl, s'⟩, hf3⟩)) (fun hne => w_rdF hA3.1 ?_)))
                  rw [show (40 : Int32) * nI Ls.length = nI (40 * Ls.length) from pk_mul 40 _]
                  refine w_cs0 (tp_formTo (r := 115) (o := 40 * Ls.length) ml115 (by omega) (by omega) (by omega) (by omega) b3' hk3) (fun y5 ⟨p1, p2, p3⟩ => ?_)
                  have h116 : y5.1 116 = nI Ls.length := by rw [(p2 116 (by omega)).1]; exact hA3.1
                  have ll : (Ls ++ [F']).length = Ls.length + 1 := by rw [List.length_append]; rfl
                  refine w_rdF h116 (w_wrF (c4 _ _ (Ls ++ [F']) _ (by omega) (by omega) nd' s' (fun i hi => clo_m (by omega) (hc i hi)) (fun F hF9 eF t ht9 t1 t2 t3 G hG g1 g2 g3 => ?_) ⟨?_, fun i S hi => ?_⟩ (fr_F2 (fr_tr hf3 (fr_mono (fun g hg => by unfold afH; omega) p2)) (by unfold afH; omega))))
                  · rw [List.getElem?_append_left haL] at eF
                    by_cases et : t = s
                    · subst et
                      have eFS : F = Sa := Option.some.inj (eF.symm.trans eSa)
                      subst eFS
                      rw [eG] at g3
                      obtain ⟨u1, u2⟩ := F_uni g1 b1 g3
                      rw [u2]
                      exact List.mem_append_right _ List.mem_cons_self
                    · exact List.mem_append_left _ (hcs F hF9 eF t ht9 t1 (by omega) t3 G hG g1 g2 g3)
                  · rw [ll]
                    exact po_usF_at.trans (nI_1 _)
                  · have hil := (List.getElem?_eq_some_iff.mp hi).1
                    rw [ll] at hil
                    by_cases hiF : i = Ls.length
                    · rw [hiF, List.getElem?_append_right (Nat.le_refl _), Nat.sub_self] at hi
                      have : F' = S := Option.some.inj hi
                      rw [hiF, ← this]
                      exact p1
                    · rw [List.getElem?_append_left (by omega)] at hi
                      have i2 := hA3.2 i S hi
                      have il := (hs S (List.mem_of_getElem? hi)).2.1
                      refine ⟨?_, ?_, fun j s hj => ?_, i2.2.2.2⟩
                      · show y5.2.1 115 (40 * i) = _
                        rw [p3 _ (by omega)]
                        exact i2.1
                      · show y5.2.1 115 (40 * i + 1) = _
                        rw [p3 _ (by omega)]
                        exact i2.2.1
                      · show y5.2.1 115 (40 * i + 2 + j) = _
                        have hjl := (List.getElem?_eq_some_iff.mp hj).1
                        rw [p3 _ (by omega)]
                        exact i2.2.2.1 j s hj
            | succ d3 ih3 =>
              intro j y hj hA hw hf
              have hjl : j < Sa.length := by omega
              have hfa := hA.2 at9 Sa eSa
              have hb9 := bdd j
              refine u_X13_allForms_3 ?_; unfold qm_X13_allForms_3
              rw [show (40 : Int32) * nI at9 = nI (40 * at9) from pk_mul 40 _, show nI (40 * at9) + 1 = nI (40 * at9 + 1) from nI_1 _, show nI (40 * at9) + 2 = nI (40 * at9 + 2) from nI_add _ 2, nI_add, show nI j + 1 = nI (j + 1) from nI_1 _]
              refine w_rdI ml115 rfl (by omega) hfa.2.1 (w_leF (by omega) (by omega) (w_rdI ml115 rfl (by omega) (hfa.2.2.1 j _ (List.getElem?_eq_getElem hjl)) (w_cs0 (tp_append h2 h5 (na.1 _ (List.getElem_mem hjl)) (tF hf) hw (by omega)) (fun y1 ⟨w1, f1⟩ => ?_))))
              rw [← bs_app, show tuG m.1 k (ahG m.1 s) :: Sa.take j ++ [Sa[j]] = tuG m.1 k (ahG m.1 s) :: Sa.take (j + 1) from by rw [List.take_succ, List.getElem?_eq_getElem hjl]; rfl] at w1
              exact ih3 (j + 1) y1 (by omega) (afL_fr f1 (by omega) (by omega) hA) w1 (fr_tr hf (fr_mono (fun g hg => by unfold afH; omega) f1))
          have hf0 : fr afH z (usF y 109 0) := fr_F2 hf (by unfold afH; omega)
          refine u_X13_allForms_2 ?_; unfold qm_X13_allForms_2
          rw [show (40 : Int32) * nI at9 = nI (40 * at9) from pk_mul 40 _, ix120]
          refine w_rdI ml97 rfl (by omega) ((tF hf) m.1 h2 h5).1 (w_leF (by omega) (by omega) (w_rdI ml115 rfl (by omega) fa.1 (w_wrF (w_rdI ml102 rfl (by omega) (((tF hf0) m.1 h2 h5).2 s hsl).2.1 (w_cs1 (xr_turned h2 h5 hah (tF hf0) (by omega) (by omega)) (fun v y1 ⟨e1, k2w⟩ => ?_))))))
          have e1 : y1 = usF y 109 0 := e1
          have k2v : v = nI (tuG m.1 k (ahG m.1 s)) := k2w
          subst e1
          rw [k2v]
          refine w_cs0 (tp_append (L := []) h2 h5 ht (tF hf0) ⟨po_usF_at, fun i a hi => by simp at hi⟩ (by decide)) (fun y2 ⟨w2, f2⟩ => ?_)
          refine c3 R 0 y2 (by omega) (afL_fr f2 (by omega) (by omega) (afL_fr (fr_F (P := fun g => g = 109) rfl) (by omega) (by omega) hA)) ?_ (fr_tr hf0 (fr_mono (fun g hg => by unfold afH; omega) f2))
          rw [List.take_zero]
          have : (bsG m.1 [tuG m.1 k (ahG m.1 s)]).flatten = [] ++ ltG m.1 (tuG m.1 k (ahG m.1 s)) := by
            unfold bsG
            simp
          rw [this]
          exact w2
      exact c2 (gNN m.1 - 1) 1 Ls y (by omega) (by omega) hlt hL hnd hs hc (fun F hF9 eF t ht9 t1 t2 => absurd t2 (by omega)) hA hf
  refine e_X13_allForms ?_
  refine u_X13_allForms_0 ?_; unfold qm_X13_allForms_0
  refine w_cs0 (tp_formTo (r := 115) (o := 0) ml115 (by omega) (by omega) (by omega) (by omega) s1 s3) (fun y ⟨p1, p2, _⟩ => w_wrF ?_)
  refine c1 200 0 [F0] _ (by omega) (Nat.zero_le _) (by rw [List.length_singleton]; omega) (by rw [List.length_singleton]; omega) (List.nodup_cons.mpr ⟨List.not_mem_nil, List.nodup_nil⟩) (fun F hF => ?_) (fun i hi => absurd hi (Nat.not_lt_zero _)) ⟨po_usF_at, fun i S hi => ?_⟩ (fr_F2 (fr_mono (fun g hg => by unfold afH; omega) p2) (by unfold afH; omega))
  · rw [List.mem_singleton.mp hF]
    exact ⟨s6, hR, h0, x0, e0⟩
  · have hil := (List.getElem?_eq_some_iff.mp hi).1
    rw [List.length_singleton] at hil
    have i0 : i = 0 := by omega
    subst i0
    have : F0 = S := Option.some.inj hi
    rw [← this]
    exact frwI_fr (fr_F (P := fun g => g = 116) rfl) (by omega) p1
end XS3
end
section
/-! 99zzzzzzzzzzzzzzzp.xsm4 -/
/-! summit: the class's forms: one simple braid before another -/
def pbI (n : Nat) (F L : List Nat) (j : Nat) : Prop := (∀ i, L[j + 1 + i]? = F[j + i]?) ∧ (∀ i g g', i + 1 ≤ j → L[i]? = some g → L[i + 1]? = some g' → lwG n g g') ∧ ∀ i g, i + 1 = j → L[i]? = some g → ∀ t, t < gNN n → (r1G n t (L.drop i)).1 = 0 → ddG n g t = 0
section XS4
variable {n : Nat}
theorem dr_2 {L : List Nat} {j p q : Nat} (e1 : L[j]? = some p) (e2 : L[j + 1]? = some q) : L.drop j = p :: q :: L.drop (j + 2) := by
  have l2 := (List.getElem?_eq_some_iff.mp e2).1
  have k1 : L.drop j = L[j]'(by omega) :: L.drop (j + 1) := List.drop_eq_getElem_cons (by omega)
  have k2 : L.drop (j + 1) = L[j + 1]'(by omega) :: L.drop (j + 1 + 1) := List.drop_eq_getElem_cons l2
  rw [List.getElem?_eq_getElem (by omega)] at e1
  rw [List.getElem?_eq_getElem l2] at e2
  rw [k1, k2, Option.some.inj e1, Option.some.inj e2]
theorem set_dr {L : List Nat} {j p q : Nat} (hl : j + 1 < L.length) : ((L.set j p).set (j + 1) q) = L.take j ++ p :: q :: L.drop (j + 2) := by
  refine List.ext_getElem? (fun i => ?_)
  by_cases c1 : i < j
  · rw [List.getElem?_append_left (by rw [List.length_take]; omega), List.getElem?_take_of_lt c1, List.getElem?_set_ne (by omega), List.getElem?_set_ne (by omega)]
  · rw [List.getElem?_append_right (by rw [List.length_take]; omega), List.length_take, Nat.min_eq_left (by omega)]
    by_cases c2 : i = j
    · rw [c2, Nat.sub_self, List.getElem?_set_ne (by omega), List.getElem?_set_self (by omega)]
      rfl
    · by_cases c3 : i = j + 1
      · rw [c3, show j + 1 - j = 1 by omega, List.getElem?_set_self (by rw [List.length_set]; omega)]
        rfl
      · rw [List.getElem?_set_ne (by omega), List.getElem?_set_ne (by omega)]
        obtain ⟨d, hd⟩ : ∃ d, i - j = d + 2 := ⟨i - j - 2, by omega⟩
        rw [hd]
        show L[i]? = (L.drop (j + 2))[d]?
        rw [List.getElem?_drop, show j + 2 + d = i by omega]
theorem pb_0 {F : List Nat} {b : Nat} : pbI n F (b :: F) 0 := ⟨fun i => by rw [show 0 + 1 + i = i + 1 by omega, List.getElem?_cons_succ, Nat.zero_add], fun i g g' h => absurd h (by omega), fun i g h => absurd h (by omega)⟩
theorem pb_stop {F L : List Nat} {j p q : Nat} (hF : wtL n F) (h : pbI n F L j) (ep : L[j]? = some p) (eq : L[j + 1]? = some q) (hl : lwG n p q) : wtL n L := by
  intro i g g' e1 e2
  by_cases c1 : i + 1 ≤ j
  · exact h.2.1 i g g' c1 e1 e2
  · by_cases c2 : i = j
    · rw [c2, ep] at e1
      rw [c2, eq] at e2
      rw [← Option.some.inj e1, ← Option.some.inj e2]
      exact hl
    · have k1 := h.1 (i - j - 1)
      have k2 := h.1 (i - j)
      rw [show j + 1 + (i - j - 1) = i by omega, e1] at k1
      rw [show j + 1 + (i - j) = i + 1 by omega, e2] at k2
      refine hF (j + (i - j - 1)) g g' k1.symm ?_
      rw [show j + (i - j - 1) + 1 = j + (i - j) by omega]
      exact k2.symm
theorem pb_end {F L : List Nat} (hl : L.length = F.length + 1) (h : pbI n F L F.length) : wtL n L := fun i g g' e1 e2 => by
  have := (List.getElem?_eq_some_iff.mp e2).1
  exact h.2.1 i g g' (by omega) e1 e2
/-- a letter more -/
theorem r1_let (h2 : 2 ≤ n) (h5 : n ≤ 5) {w c p : Nat} {R : List Nat} (hw : w < gNN n) (hc : c + 1 < n) (hp : p < gNN n) (hR : okT n R) (m1 : moG n w c ≠ 0) (m2 : ddG n p (moG n 0 c - 1) = 0) : (r1G n (moG n w c - 1) (w :: p :: R)).1 = 0 := by
  have hl := lett h2 h5 hc
  have e1 : muG n w (moG n 0 c - 1) = (moG n w c - 1) + 1 := by rw [mu_let h2 h5 hc]; omega
  have hX : okT n (w :: p :: R) := okT_c.mpr ⟨hw, okT_c.mpr ⟨hp, hR⟩⟩
  have k := (r1_mul h2 h5 (w :: p :: R) hw hl e1 hX).2
  have e2 : r1G n w (w :: p :: R) = (0, 0 :: p :: R) := by
    show ((r1G n (ddG n w w) (p :: R)).1, ddG n w w :: (r1G n (ddG n w w) (p :: R)).2) = _
    rw [dd_s h2 h5 hw, r1_0 h2 h5 _ (okT_c.mpr ⟨hp, hR⟩)]
  rw [e2] at k
  have e3 : (r1G n (moG n 0 c - 1) (0 :: p :: R)).1 = 0 := by
    show (r1G n (ddG n p (ddG n 0 (moG n 0 c - 1))) R).1 = 0
    rw [dd_0l h2 h5 hl, m2, r1_0 h2 h5 R hR]
  rw [e3, mu_r0 h2 h5] at k
  omega
theorem pb_step (h2 : 2 ≤ n) (h5 : n ≤ 5) {F L : List Nat} {j p q x p' q' : Nat} (hF : wtL n F) (hL : okT n L) (hl : L.length = F.length + 1) (h : pbI n F L j) (ep : L[j]? = some p) (eq : L[j + 1]? = some q) (hx : x < gNN n) (hq' : q' < gNN n) (e1 : muG n p x = p' + 1) (e2 : muG n x q' = q + 1) (hw : lwG n p' q') : okT n ((L.set j p').set (j + 1) q') ∧ eqT n L ((L.set j p').set (j + 1) q') ∧ pbI n F ((L.set j p').set (j + 1) q') (j + 1) := by
  have l2 := (List.getElem?_eq_some_iff.mp eq).1
  have hp := hL p (List.mem_of_getElem? ep)
  have hq := hL q (List.mem_of_getElem? eq)
  have hp' := (mu_lt h2 h5 hp e1).1
  have hD : okT n (L.drop (j + 2)) := fun t ht => hL t (List.mem_of_mem_drop ht)
  have hT : okT n (L.take j) := fun t ht => hL t (List.mem_of_mem_take ht)
  have eL : L = L.take j ++ p :: q :: L.drop (j + 2) := by
    rw [← dr_2 ep eq, List.take_append_drop]
  have eS := set_dr (p := p') (q := q') l2
  have ok : okT n ((L.set j p').set (j + 1) q') := by
    rw [eS]
    exact okT_a.mpr ⟨hT, okT_c.mpr ⟨hp', okT_c.mpr ⟨hq', hD⟩⟩⟩
  have dS : ∀ i, i ≤ j → eqT n (L.drop i) (((L.set j p').set (j + 1) q').drop i) := fun i hi => by
    have a1 : L.drop i = (L.take j).drop i ++ p :: q :: L.drop (j + 2) := by
      conv => lhs; rw [eL]
      rw [List.drop_append_of_le_length (by rw [List.length_take]; omega)]
    have a2 : ((L.set j p').set (j + 1) q').drop i = (L.take j).drop i ++ p' :: q' :: L.drop (j + 2) := by
      rw [eS, List.drop_append_of_le_length (by rw [List.length_take]; omega)]
    rw [a1, a2]
    exact eqT_swp h2 h5 (fun t ht => hT t (List.mem_of_mem_drop ht)) hD hp hx hq' e1 e2
  have gt : ∀ i, j + 2 ≤ i → ((L.set j p').set (j + 1) q')[i]? = L[i]? := fun i hi => by
    rw [List.getElem?_set_ne (by omega), List.getElem?_set_ne (by omega)]
  have gl : ∀ i, i < j → ((L.set j p').set (j + 1) q')[i]? = L[i]? := fun i hi => by
    rw [List.getElem?_set_ne (by omega), List.getElem?_set_ne (by omega)]
  have gj : ((L.set j p').set (j + 1) q')[j]? = some p' := by
    rw [List.getElem?_set_ne (by omega), List.getElem?_set_self (by omega)]
  have gj1 : ((L.set j p').set (j + 1) q')[j + 1]? = some q' := by
    rw [List.getElem?_set_self (by rw [List.length_set]; omega)]
  have d0 := dS 0 (Nat.zero_le _)
  refine ⟨ok, d0, fun i => ?_, fun i g g' hi g1 g2 => ?_, fun i g hi g1 t ht e9 => ?_⟩
  · rw [gt _ (by omega)]
    have := h.1 (i + 1)
    rw [show j + 1 + (i + 1) = j + 1 + 1 + i by omega, show j + (i + 1) = j + 1 + i by omega] at this
    exact this
  · by_cases c1 : i = j
    · rw [c1, gj] at g1
      rw [c1, gj1] at g2
      rw [← Option.some.inj g1, ← Option.some.inj g2]
      exact hw
    · rw [gl i (by omega)] at g1
      by_cases c2 : i + 1 = j
      · rw [c2, gj] at g2
        have eg' := Option.some.inj g2
        have hg := hL g (List.mem_of_getElem? g1)
        intro c hc m1 m2
        rw [← eg'] at m2
        have dg : ((L.set j p').set (j + 1) q').drop i = g :: p' :: ((L.set j p').set (j + 1) q').drop (i + 2) := dr_2 (by rw [gl i (by omega)]; exact g1) (by rw [c2]; exact gj)
        have k := r1_let h2 h5 (R := ((L.set j p').set (j + 1) q').drop (i + 2)) hg hc hp' (fun t ht => ok t (List.mem_of_mem_drop ht)) m1 m2
        rw [← dg, ← (eqT_1 (dS i (by omega)) (by
          have e5 : muG n g (moG n 0 c - 1) = (moG n g c - 1) + 1 := by rw [mu_let h2 h5 hc]; omega
          exact (mu_lt h2 h5 hg e5).1)).1] at k
        have e5 : muG n g (moG n 0 c - 1) = (moG n g c - 1) + 1 := by rw [mu_let h2 h5 hc]; omega
        have k2 := h.2.2 i g c2 g1 _ (mu_lt h2 h5 hg e5).1 k
        have e6 := mu_dd h2 h5 hg (lett h2 h5 hc) e5
        have e7 := dv_as h2 h5 (mu_lt h2 h5 hg e5).1 hg k2 e6.1
        have e8 := (mu_lt h2 h5 hg e5).2
        rw [sz_let h2 h5 hc] at e8
        rw [e7] at e8
        omega
      · rw [gl (i + 1) (by omega)] at g2
        exact h.2.1 i g g' (by omega) g1 g2
  · have ei : i = j := by omega
    subst ei
    rw [gj] at g1
    rw [← Option.some.inj g1]
    rw [← (eqT_1 (dS i (Nat.le_refl _)) ht).1, dr_2 ep eq] at e9
    have e9 : (r1G n (ddG n p t) (q :: L.drop (i + 2))).1 = 0 := e9
    have hq2 : okT n (q :: L.drop (i + 2)) := okT_c.mpr ⟨hq, hD⟩
    have wq : wtL n (q :: L.drop (i + 2)) := fun k g g' k1 k2 => by
      have lk : ∀ k, (q :: L.drop (i + 2))[k]? = L[i + 1 + k]? := fun k => by
        cases k with
        | zero => exact eq.symm
        | succ k =>
          rw [List.getElem?_cons_succ, List.getElem?_drop]
          congr 1
          omega
      rw [lk, h.1] at k1 k2
      exact hF (i + k) g g' k1 k2
    have k3 := lw_div h2 h5 _ hq2 wq (dd_lt h2 h5 hp ht) e9
    have k4 : (r1G n t [p, q]).1 = 0 := k3
    have e10 : eqT n [p, q] [p', q'] := eqT_swp (X := []) (Y := []) h2 h5 okT_n okT_n hp hx hq' e1 e2
    rw [(eqT_1 e10 ht).1] at k4
    refine lw_div h2 h5 [q'] (okT_c.mpr ⟨hp', okT_c.mpr ⟨hq', okT_n⟩⟩) (fun k g g' k1 k2 => ?_) ht k4
    cases k with
    | zero =>
      have a1 : p' = g := Option.some.inj k1
      have a2 : q' = g' := Option.some.inj k2
      rw [← a1, ← a2]
      exact hw
    | succ k =>
      have h9 : k + 1 + 1 < 2 := (List.getElem?_eq_some_iff.mp k2).1
      omega
variable {vl : Nat → Nat} {y : ow_MS} {h : Nat} {κ : Int32}
theorem xc_putBefore {F : List Nat} {b : Nat} (hh : fO h) (h2 : 2 ≤ n) (h5 : n ≤ 5) (hF : nfL n F) (hb : b < gNN n) (hl : F.length < 24) (h0 : foA y h n κ (F.map (pkG n))) : Te (fun K => ce_X5_putBefore vl K h (pkG n b) y) (fun y1 => ∃ d F', foA y1 h n (κ + nI d) (F'.map (pkG n)) ∧ nfL n F' ∧ F'.length ≤ F.length + 1 ∧ eqT n (b :: F) (List.replicate d (gNN n - 1) ++ F') ∧ fr (foP h) y y1) := by
  let Q : ow_MS → Prop := fun y1 => ∃ d F', foA y1 h n (κ + nI d) (F'.map (pkG n)) ∧ nfL n F' ∧ F'.length ≤ F.length + 1 ∧ eqT n (b :: F) (List.replicate d (gNN n - 1) ++ F') ∧ fr (foP h) y y1
  obtain ⟨h3, -⟩ := fo_len h0
  have c2 : ∀ (z : ow_MS) (a c : Int32) (L : List Nat), okT n L → wtL n L → L.length = F.length + 1 → eqT n (b :: F) L → foA z h n κ (L.map (pkG n)) → fr (foP h) y z → Tt (fun K t => c_X5_putBefore vl K t 2 (pkG n b) a c h z) Q := by
    intro z a c L q1 q2 q3 q4 q5 q6
    refine u_X5_putBefore_2 ?_; unfold cm_X5_putBefore_2
    refine w_cs0 (xc_strip hh h2 h5 q1 q2 q5) ?_
    rintro z1 ⟨d, F', g1, g2, g3, g4, g5⟩
    exact w_some ⟨d, F', g1, g2, by omega, eqT_tr q4 g4, fr_tr q6 g5⟩
  have c1 : ∀ (d j : Nat) (z : ow_MS) (a : Int32) (L : List Nat), j + d = F.length → okT n L → L.length = F.length + 1 → eqT n (b :: F) L → foA z h n κ (L.map (pkG n)) → fr (foP h) y z → (a = 1 ∧ pbI n F L j ∨ a = 0 ∧ wtL n L) → Tt (fun K t => c_X5_putBefore vl K t 1 (pkG n b) a (nI j) h z) Q := by
    intro d
    induction d with
    | zero =>
      intro j z a L hj q1 q3 q4 q5 q6 q7
      have ej : j = F.length := by omega
      subst ej
      have hw : wtL n L := by
        rcases q7 with ⟨-, q7⟩ | ⟨-, q7⟩
        · exact pb_end q3 q7
        · exact q7
      obtain ⟨z3, -⟩ := fo_len q5
      rw [q3] at z3
      refine u_X5_putBefore_1 ?_; unfold cm_X5_putBefore_1
      refine w_rdF z3 ?_
      rw [show nI (F.length + 1) - 1 = nI F.length from pk_sub (b := 1) (by omega)]
      exact w_leT (by omega) (by omega) (c2 z _ _ L q1 hw q3 q4 q5 q6)
    | succ d ih =>
      intro j z a L hj q1 q3 q4 q5 q6 q7
      obtain ⟨z3, -⟩ := fo_len q5
      rw [q3] at z3
      have ea : L[j]? = some (L[j]'(by omega)) := List.getElem?_eq_getElem (by omega)
      have eb : L[j + 1]? = some (L[j + 1]'(by omega)) := List.getElem?_eq_getElem (by omega)
      refine u_X5_putBefore_1 ?_; unfold cm_X5_putBefore_1
      refine w_rdF z3 ?_
      rw [show nI (F.length + 1) - 1 = nI F.length from pk_sub (b := 1) (by omega)]
      refine w_leF (by omega) (by omega) ?_
      rcases q7 with ⟨rfl, q7⟩ | ⟨rfl, q7⟩
      · refine w_ifF (by decide) (w_cs1 (xc_weigh hh h2 h5 q1 q5 ea eb) ?_)
        rintro v z1 (⟨g1, g2, g3⟩ | ⟨g1, g2, x, p', q', x1, x2, x3, x4, x5, x6⟩)
        · dsimp only at g1 g2
          rw [nI_1, g1, g2]
          exact ih (j + 1) z 0 L (by omega) q1 q3 q4 q5 q6 (Or.inr ⟨rfl, pb_stop hF.2.1 q7 ea eb g3⟩)
        · dsimp only at g1 g2 x6
          rw [nI_1, g1]
          obtain ⟨s1, s2, s3⟩ := pb_step h2 h5 hF.2.1 q1 q3 q7 ea eb x1 x2 x3 x4 x5
          exact ih (j + 1) z1 1 _ (by omega) s1 (by rw [List.length_set, List.length_set]; exact q3) (eqT_tr q4 s2) x6 (fr_tr q6 g2) (Or.inl ⟨rfl, s3⟩)
      · exact w_ifT rfl (c2 z _ _ L q1 q7 q3 q4 q5 q6)
  refine e_X5_putBefore ?_
  refine u_X5_putBefore_0 ?_; unfold cm_X5_putBefore_0
  refine w_rdF h3 (w_lt (b := 24) (by omega) (by omega) (fun hl24 => w_rdF h3 (w_cpI (a := 0) (b := 1) (n := F.length) (fO_4 hh) (fO_4 hh) rfl rfl rfl (by omega) (by omega) (w_ctI (i := 0) (fO_4 hh) rfl (by omega) (w_rdF (x := nI F.length) h3 (w_wrF ?_))))) (fun h9 => absurd hl (Nat.not_lt.mpr h9)))
  rw [nI_1]
  refine c1 F.length 0 _ 1 (b :: F) (by omega) (okT_c.mpr ⟨hb, hF.1⟩) rfl (eqT_rf _) ?_ (fr_F2 (fr_I2 (fr_R2 fr_rf (by unfold foP; omega)) (by unfold foP; omega)) (by unfold foP; omega)) (Or.inl ⟨rfl, pb_0⟩)
  obtain ⟨a1, a2, a3, a4, a5, a6, a7⟩ := h0
  refine ⟨rf_ot (by omega) a1, rf_ot (by omega) a2, ?_, ?_, fun i c ei => ?_, rf_ot (by omega) a6, rf_ot (by omega) a7⟩
  · rw [List.length_map, List.length_cons]
    exact po_usF_at
  · rw [List.length_map, List.length_cons]
    omega
  · show (usI (usR y (h + 4) (va_cpy (y.2.1 (h + 4)) (y.2.1 (h + 4)) 0 1 F.length)) (h + 4) 0 (pkG n b)).2.1 (h + 4) i = c
    rw [List.map_cons] at ei
    cases i with
    | zero =>
      rw [po_usI_at]
      exact Option.some.inj ei
    | succ i =>
      rw [List.getElem?_cons_succ] at ei
      have l := (List.getElem?_eq_some_iff.mp ei).1
      rw [List.length_map] at l
      rw [po_usI_ne (by omega), usR_at, pk_cpy_in (by omega) (by omega), show 0 + (i + 1 - 1) = i by omega]
      exact a5 i c ei
end XS4
end
section
/-! 99zzzzzzzzzzzzzzzq.xsm5 -/
/-! summit: the class's forms go round -/
def cbR (v : Int32) (n : Nat) : Nat → Int32
  | 0 => 0
  | j + 1 => cbR v n j ||| ((foJ v ((nI n - 1) - nI j)) <<< (((4 * nI j) : Int32) &&& 31))
def gCB (n s : Nat) : Bool := decide (cbR (ivG n s) n n = pkG n (ahG n s))
theorem cb_2 : ∀ s : Fin 2, gCB 2 s.val = true := by decide +kernel
theorem cb_3 : ∀ s : Fin 6, gCB 3 s.val = true := by decide +kernel
theorem cb_4 : ∀ s : Fin 24, gCB 4 s.val = true := by decide +kernel
section XS5
variable {m : N5} {vl : Nat → Nat} {y : ow_MS} {h : Nat}
theorem cb_n (h4 : m.1 ≤ 4) {s : Nat} (hs : s < gNN m.1) : cbR (ivG m.1 s) m.1 m.1 = pkG m.1 (ahG m.1 s) := by
  have h2 := m.2.1
  generalize m.1 = n at *
  have : n = 2 ∨ n = 3 ∨ n = 4 := by omega
  rcases this with rfl | rfl | rfl
  · exact of_decide_eq_true (cb_2 ⟨s, hs⟩)
  · exact of_decide_eq_true (cb_3 ⟨s, hs⟩)
  · exact of_decide_eq_true (cb_4 ⟨s, hs⟩)
/-- a form in a state of the class -/
def foC (y : ow_MS) (h : Nat) (m : N5) (k : Int) (F : List Nat) : Prop := foA y h m.1 (iI k) (F.map (pkG m.1)) ∧ nfL m.1 F ∧ -200 ≤ k ∧ k ≤ 200
def foQ (y : ow_MS) (h : Nat) (m : N5) (k : Int) (U : List Nat) (b : Nat) (y1 : ow_MS) : Prop := (∃ (d : Nat) (F : List Nat), foA y1 h m.1 (iI (k + (d : Int))) (F.map (pkG m.1)) ∧ nfL m.1 F ∧ F.length + d ≤ b ∧ eqT m.1 U (List.replicate d (gNN m.1 - 1) ++ F)) ∧ fr (foP h) y y1
theorem le_U {U F : List Nat} {d : Nat} (hU : okT m.1 U) (hF : nfL m.1 F) (e : eqT m.1 U (List.replicate d (gNN m.1 - 1) ++ F)) : F.length + d ≤ U.length := by
  have e := F_eq (m := m) (k := 0) (hT := hU) (hF := hF.1) e
  have a1 : gle (gF m 0 U hU) (gD m (U.length : Int)) := by
    unfold gF
    have : gD m 0 = g1 m := rfl
    rw [this, g1_l]
    exact sup_le U
  rw [e] at a1
  have := (sup_F hF).mp a1
  omega
theorem xc_putBh {F : List Nat} {b : Nat} {k : Int} (hh : fO h) (hF : nfL m.1 F) (hb : b < gNN m.1) (hl : F.length < 24) (h0 : foA y h m.1 (iI k) (F.map (pkG m.1))) : Te (fun K => ce_X5_putBehind vl K h (pkG m.1 b) y) (foQ y h m k (F ++ [b]) (F.length + 1)) := w_monoE (xc_putBehindF hh m.2.1 m.2.2 hF hb hl h0) (fun r ⟨d, F', g1, g2, _, g4, g5⟩ => ⟨⟨d, F', by rw [nI_iI, iI_add] at g1; exact g1, g2, by
  have := le_U (okT_a.mpr ⟨hF.1, okT_c.mpr ⟨hb, okT_n⟩⟩) g2 g4
  rw [List.length_append] at this
  exact this, g4⟩, g5⟩)
theorem xc_putBf {F : List Nat} {b : Nat} {k : Int} (hh : fO h) (hF : nfL m.1 F) (hb : b < gNN m.1) (hl : F.length < 24) (h0 : foA y h m.1 (iI k) (F.map (pkG m.1))) : Te (fun K => ce_X5_putBefore vl K h (pkG m.1 b) y) (foQ y h m k (b :: F) (F.length + 1)) := w_monoE (xc_putBefore hh m.2.1 m.2.2 hF hb hl h0) (fun r ⟨d, F', g1, g2, _, g4, g5⟩ => ⟨⟨d, F', by rw [nI_iI, iI_add] at g1; exact g1, g2, by
  have := le_U (okT_c.mpr ⟨hb, hF.1⟩) g2 g4
  rw [List.length_cons] at this
  exact this, g4⟩, g5⟩)
theorem foQ_tr {y0 y1 : ow_MS} {k : Int} {U : List Nat} {b : Nat} (hf : fr (foP h) y0 y) (h0 : foQ y h m k U b y1) : foQ y0 h m k U b y1 := ⟨h0.1, fr_tr hf h0.2⟩
theorem pk_tu {k : Int} {f : Nat} (hf : f < gNN m.1) : (if k % 2 = 0 then pkG m.1 f else foU (pkG m.1 f) m.1 m.1) = pkG m.1 (tuG m.1 k f) := by
  unfold tuG
  by_cases e : k % 2 = 0
  · rw [if_pos e, if_pos e]
  · rw [if_neg e, if_neg e]
    exact (d_qk m.2.1 m.2.2 hf).2.1
theorem xc_cycle {k : Int} {f : Nat} {F : List Nat} (hh : fO h) (h0 : foC y h m k (f :: F)) : Te (fun K => ce_X5_cycle vl K h y) (foQ y h m k (F ++ [tuG m.1 k f]) (F.length + 1)) := by
  obtain ⟨hA, hn, k1, k2⟩ := h0
  obtain ⟨h3, l24⟩ := fo_len hA
  rw [List.length_cons] at h3 l24
  have hf := (okT_c.mp hn.1).1
  have hF := nf_c hn
  obtain ⟨a1, a2, a3, a4, a5, a6, a7⟩ := id hA
  have c1 : Tt (fun K t => c_X5_cycle vl K t 1 h (pkG m.1 (tuG m.1 k f)) y) (foQ y h m k (F ++ [tuG m.1 k f]) (F.length + 1)) := by
    refine u_X5_cycle_1 ?_; unfold cm_X5_cycle_1
    refine w_rdF h3 (w_wrF ?_)
    rw [show nI (F.length + 1) - 1 = nI F.length from pk_sub (b := 1) (by omega)]
    refine w_rdF po_usF_at (w_cpI (a := 1) (b := 0) (n := F.length) (fO_4 hh) (fO_4 hh) rfl rfl rfl (by omega) (by omega) (w_cs0 (xc_putBh (k := k) hh hF (tu_lt m.2.1 m.2.2 hf) (by omega) ?_) ?_))
    · refine ⟨rf_ot (by omega) a1, rf_ot (by omega) a2, ?_, by rw [List.length_map]; omega, fun i c ei => ?_, rf_ot (by omega) a6, rf_ot (by omega) a7⟩
      · rw [List.length_map]
        exact po_usF_at
      · have l := (List.getElem?_eq_some_iff.mp ei).1
        rw [List.length_map] at l
        rw [usR_at, pk_cpy_in (by omega) (by omega)]
        refine a5 (1 + (i - 0)) c ?_
        rw [List.map_cons, show 1 + (i - 0) = i + 1 by omega, List.getElem?_cons_succ]
        exact ei
    · rintro z g
      exact w_some (foQ_tr (fr_R2 (fr_F (by unfold foP; omega)) (by unfold foP; omega)) g)
  have e0 : y.2.1 (h + 4) 0 = pkG m.1 f := a5 0 _ rfl
  have ep := pk_tu (m := m) (k := k) hf
  refine e_X5_cycle ?_
  refine u_X5_cycle_0 ?_; unfold cm_X5_cycle_0
  refine w_rdF h3 (w_leF (b := 0) (by omega) (by omega) (w_rdF a2 (w_if (fun e => w_crI (i := 0) (fO_4 hh) rfl (by omega) e0 ?_) (fun e => w_crI (i := 0) (fO_4 hh) rfl (by omega) e0 (w_rdF a1 (w_cs1 (tc_turned m.2.2) ?_))))))
  · rw [if_pos ((iI_ev k1 k2).mp e)] at ep
    rw [ep]
    exact c1
  · rintro v z ⟨e1, e2⟩
    dsimp only at e1 e2
    rw [if_neg (fun h9 => e ((iI_ev k1 k2).mpr h9))] at ep
    rw [e2, e1, ep]
    exact c1
theorem xc_cyc0 {k : Int} (h0 : foC y h m k []) : Te (fun K => ce_X5_cycle vl K h y) (fun y1 => y1 = y) := by
  obtain ⟨h3, -⟩ := fo_len h0.1
  refine e_X5_cycle ?_
  refine u_X5_cycle_0 ?_; unfold cm_X5_cycle_0
  exact w_rdF h3 (w_leT (b := 0) (by omega) (by show (0 : Nat) ≤ 0; omega) (w_some rfl))
theorem xc_decycle {k : Int} {a : Nat} {F : List Nat} (hh : fO h) (h0 : foC y h m k (F ++ [a])) : Te (fun K => ce_X5_decycle vl K h y) (foQ y h m k (tuG m.1 k a :: F) (F.length + 1)) := by
  obtain ⟨hA, hn, k1, k2⟩ := h0
  obtain ⟨h3, l24⟩ := fo_len hA
  have len1 : (F ++ [a]).length = F.length + 1 := by rw [List.length_append]; rfl
  rw [len1] at h3 l24
  obtain ⟨hFk, hak⟩ := okT_a.mp hn.1
  have ha := (okT_c.mp hak).1
  have hF : nfL m.1 F := ⟨hFk, fun i g g' e1 e2 => by
    have l := (List.getElem?_eq_some_iff.mp e2).1
    exact hn.2.1 i g g' (by rw [List.getElem?_append_left (by omega)]; exact e1) (by rw [List.getElem?_append_left l]; exact e2), fun g hg => hn.2.2 g (List.mem_append_left _ hg)⟩
  obtain ⟨a1, a2, a3, a4, a5, a6, a7⟩ := id hA
  have e0 : y.2.1 (h + 4) F.length = pkG m.1 a := a5 F.length _ (by rw [List.getElem?_map, List.getElem?_append_right (Nat.le_refl _), Nat.sub_self]; rfl)
  have q1 : foA (usF y (h + 3) (nI F.length)) h m.1 (iI k) (F.map (pkG m.1)) := by
    refine ⟨rf_ot (by omega) a1, rf_ot (by omega) a2, ?_, by rw [List.length_map]; omega, fun i c ei => a5 i c ?_, rf_ot (by omega) a6, rf_ot (by omega) a7⟩
    · rw [List.length_map]
      exact po_usF_at
    · have l := (List.getElem?_eq_some_iff.mp ei).1
      rw [List.length_map] at l
      rw [List.map_append, List.getElem?_append_left (by rw [List.length_map]; exact l)]
      exact ei
  have c1 : ∀ w : Int32, Tt (fun K t => c_X5_decycle vl K t 1 w h (pkG m.1 (tuG m.1 k a)) (usF y (h + 3) (nI F.length))) (foQ y h m k (tuG m.1 k a :: F) (F.length + 1)) := by
    intro w
    refine u_X5_decycle_1 ?_; unfold cm_X5_decycle_1
    refine w_cs0 (xc_putBf (k := k) hh hF (tu_lt m.2.1 m.2.2 ha) (by omega) q1) ?_
    rintro z1 g
    exact w_some (foQ_tr (fr_F (by unfold foP; omega)) g)
  have ep := pk_tu (m := m) (k := k) ha
  refine e_X5_decycle ?_
  refine u_X5_decycle_0 ?_; unfold cm_X5_decycle_0
  refine w_rdF h3 (w_leF (b := 0) (by omega) (by omega) (w_rdF h3 ?_))
  rw [show nI (F.length + 1) - 1 = nI F.length from pk_sub (b := 1) (by omega)]
  refine w_crI (fO_4 hh) rfl (show F.length < 24 by omega) e0 (w_rdF h3 (w_wrF ?_))
  rw [show nI (F.length + 1) - 1 = nI F.length from pk_sub (b := 1) (by omega)]
  refine w_rdF q1.2.1 (w_if (fun e => ?_) (fun e => w_rdF q1.1 (w_cs1 (tc_turned m.2.2) ?_)))
  · rw [if_pos ((iI_ev k1 k2).mp e)] at ep
    have := c1 (pkG m.1 a)
    rw [← ep] at this
    exact this
  · rintro v z ⟨e1, e2⟩
    dsimp only at e1 e2
    rw [if_neg (fun h9 => e ((iI_ev k1 k2).mpr h9))] at ep
    rw [e2, e1, ep]
    exact c1 _
theorem xc_dcy0 {k : Int} (h0 : foC y h m k []) : Te (fun K => ce_X5_decycle vl K h y) (fun y1 => y1 = y) := by
  obtain ⟨h3, -⟩ := fo_len h0.1
  refine e_X5_decycle ?_
  refine u_X5_decycle_0 ?_; unfold cm_X5_decycle_0
  exact w_rdF h3 (w_leT (b := 0) (by omega) (by show (0 : Nat) ≤ 0; omega) (w_some rfl))
theorem xc_conjBy {k : Int} {s : Nat} {F : List Nat} (hh : fO h) (h4 : m.1 ≤ 4) (hs : s < gNN m.1) (hl : F.length ≤ 20) (h0 : foC y h m k F) : Te (fun K => ce_X5_conjugateBy vl K h (pkG m.1 s) y) (foQ y h m (k - 1) (tuG m.1 k (ahG m.1 s) :: F ++ [s]) (F.length + 2)) := by
  obtain ⟨hA, hn, k1, k2⟩ := h0
  have h2 := m.2.1
  have h5 := m.2.2
  obtain ⟨a1, a2, a3, a4, a5, a6, a7⟩ := id hA
  have ha := (f_one h2 h5 hs).2.1
  have ht := tu_lt (k := k) h2 h5 ha
  let Q : ow_MS → Prop := foQ y h m (k - 1) (tuG m.1 k (ahG m.1 s) :: F ++ [s]) (F.length + 2)
  have c2 : ∀ (a b c : Int32), Tt (fun K t => c_X5_conjugateBy vl K t 2 (pkG m.1 s) a b c h (pkG m.1 (tuG m.1 k (ahG m.1 s))) y) Q := by
    intro a b c
    refine u_X5_conjugateBy_2 ?_; unfold cm_X5_conjugateBy_2
    refine w_rdF a2 (w_wrF (w_cs0 (xc_putBf (k := k - 1) hh hn ht (by omega) ⟨rf_ot (by omega) a1, po_usF_at.trans (by show iI k - iI 1 = _; rw [iI_sub]), rf_ot (by omega) a3, a4, a5, rf_ot (by omega) a6, rf_ot (by omega) a7⟩) ?_))
    rintro z ⟨⟨d, F1, g1, g2, g3, g4⟩, g5⟩
    refine w_cs0 (xc_putBh (k := k - 1 + (d : Int)) hh g2 hs (by omega) g1) ?_
    rintro z2 ⟨⟨d2, F2, u1, u2, u3, u4⟩, u5⟩
    have hU : okT m.1 (tuG m.1 k (ahG m.1 s) :: F ++ [s]) := okT_a.mpr ⟨okT_c.mpr ⟨ht, hn.1⟩, okT_c.mpr ⟨hs, okT_n⟩⟩
    have hs1 : okT m.1 [s] := okT_c.mpr ⟨hs, okT_n⟩
    have e9 : eqT m.1 (tuG m.1 k (ahG m.1 s) :: F ++ [s]) (List.replicate (d + d2) (gNN m.1 - 1) ++ F2) := by
      have x1 := eqT_ap h2 h5 [s] hs1 (okT_c.mpr ⟨ht, hn.1⟩) (okT_a.mpr ⟨rp_ok, g2.1⟩) g4
      rw [List.append_assoc] at x1
      have x2 := eqT_pr (P := List.replicate d (gNN m.1 - 1)) h2 h5 rp_ok u4
      rw [← List.append_assoc (List.replicate d (gNN m.1 - 1)) (List.replicate d2 (gNN m.1 - 1)), ← rp_add] at x2
      exact eqT_tr x1 x2
    refine w_some ⟨⟨d + d2, F2, ?_, u2, ?_, e9⟩, fr_tr (fr_F (by unfold foP; omega)) (fr_tr g5 u5)⟩
    · rw [show k - 1 + ((d + d2 : Nat) : Int) = k - 1 + (d : Int) + (d2 : Int) by omega]
      exact u1
    · have := le_U hU u2 e9
      rw [List.length_append, List.length_cons] at this
      exact this
  have ep := pk_tu (m := m) (k := k) ha
  have c1 : ∀ (d j : Nat), j + d = m.1 → Tt (fun K t => c_X5_conjugateBy vl K t 1 (pkG m.1 s) (ivG m.1 s) (cbR (ivG m.1 s) m.1 j) (nI j) h 0 y) Q := by
    intro d
    induction d with
    | zero =>
      intro j hj
      have ej : j = m.1 := by omega
      rw [ej, cb_n h4 hs]
      refine u_X5_conjugateBy_1 ?_; unfold cm_X5_conjugateBy_1
      refine w_rdF a1 (w_leT (by omega) (by omega) (w_rdF a2 (w_if (fun e => ?_) (fun e => w_rdF a1 (w_cs1 (tc_turned m.2.2) ?_)))))
      · rw [if_pos ((iI_ev k1 k2).mp e)] at ep
        have := c2 (ivG m.1 s) (pkG m.1 (ahG m.1 s)) (nI m.1)
        rw [← ep] at this
        exact this
      · rintro v z ⟨e1, e2⟩
        dsimp only at e1 e2
        rw [if_neg (fun h9 => e ((iI_ev k1 k2).mpr h9))] at ep
        rw [e2, e1, ep]
        exact c2 _ _ _
    | succ d ih =>
      intro j hj
      refine u_X5_conjugateBy_1 ?_; unfold cm_X5_conjugateBy_1
      refine w_rdF a1 (w_leF (by omega) (by omega) (w_rdF a1 (w_cs1 tc_image ?_)))
      rintro v z ⟨e1, e2⟩
      dsimp only at e1 e2
      rw [e2, e1, nI_1]
      exact ih (j + 1) (by omega)
  refine e_X5_conjugateBy ?_
  refine u_X5_conjugateBy_0 ?_; unfold cm_X5_conjugateBy_0
  refine w_rdF a1 (w_cs1 (tc_invert m.2.2) ?_)
  rintro v z ⟨e1, e2⟩
  dsimp only at e1 e2
  rw [e2, e1]
  exact c1 m.1 0 (by omega)
theorem xc_copyF {g : Nat} {k : Int} {F : List Nat} (hh : fO h) (hg : fO g) (hd : h + 7 ≤ g ∨ g + 7 ≤ h) (g0 : foC y g m k F) : Te (fun K => ce_X5_copy vl K h g y) (fun y1 => foC y1 h m k F ∧ fr (foP h) y y1) := by
  obtain ⟨⟨a1, a2, a3, a4, a5, a6, a7⟩, hn, k1, k2⟩ := g0
  rw [List.length_map] at a3 a4
  refine e_X5_copy ?_; unfold cm_X5_copy_0
  refine w_rdF a1 (w_cs0 (tc_begin m.2.2) ?_)
  rintro z ⟨b1, b2⟩
  have np : ∀ q, g + 1 ≤ q → q ≤ g + 6 → ¬ foP h q := fun q h1 h3 h9 => by unfold foP at h9; omega
  have e2 : z.1 (g + 2) = iI k := (b2 _ (np _ (by omega) (by omega))).1.trans a2
  have e3 : z.1 (g + 3) = nI F.length := (b2 _ (np _ (by omega) (by omega))).1.trans a3
  have e4 : z.2.1 (g + 4) = y.2.1 (g + 4) := (b2 _ (np _ (by omega) (by omega))).2.1
  refine w_rdF e2 (w_wrF (w_rdF (x := nI F.length) (rf_ot (by omega) e3) (w_wrF (w_rdF po_usF_at (w_cpI (a := 0) (b := 0) (n := F.length) (fO_4 hg) (fO_4 hh) rfl rfl rfl (by omega) (by omega) (w_some ⟨⟨⟨rf_ot (by omega) (rf_ot (by omega) b1.1), rf_ot (by omega) po_usF_at, ?_, by rw [List.length_map]; exact a4, fun i c ei => ?_, rf_ot (by omega) (rf_ot (by omega) b1.2.2.2.2.2.1), rf_ot (by omega) (rf_ot (by omega) b1.2.2.2.2.2.2)⟩, hn, k1, k2⟩, fr_R2 (fr_F2 (fr_F2 b2 (by unfold foP; omega)) (by unfold foP; omega)) (by unfold foP; omega)⟩))))))
  · rw [List.length_map]
    exact po_usF_at
  · have l := (List.getElem?_eq_some_iff.mp ei).1
    rw [List.length_map] at l
    rw [usR_at, pk_cpy_in (by omega) (by omega)]
    show z.2.1 (g + 4) (0 + (i - 0)) = c
    rw [e4, show 0 + (i - 0) = i by omega]
    exact a5 i c ei
end XS5
end
section
/-! 99zzzzzzzzzzzzzzzr.xsm6 -/
/-! summit: the class climbs -/
section XS6B
variable {m : N5} {vl : Nat → Nat} {y : ow_MS} {h : Nat}
theorem sz_D10 : szD m ≤ 10 := (f_fiv m.2.1 m.2.2 (a := 0) (by have := m.2.1; omega)).2.2.2.2.2
theorem cq_ge {a b : Gn m} {k : Int} {t : Nat} (ht : szD m ≤ t) (h : cqS a k t b) : nrs a k := by
  obtain ⟨s, s1, s2, s3, s4, s5⟩ := h
  exact cq_end (b := s (szD m)) ⟨s, s1, fun j hj => s2 j (by omega), fun j hj => s3 j (by omega), rfl, fun j hj => s5 j (by omega)⟩
theorem dq_ge {a b : Gn m} {S : Int} {t : Nat} (ht : szD m ≤ t) (h : dqS a S t b) : nls a S := by
  obtain ⟨s, s1, s2, s3, s4, s5⟩ := h
  exact dq_end (b := s (szD m)) ⟨s, s1, fun j hj => s2 j (by omega), fun j hj => s3 j (by omega), rfl, fun j hj => s5 j (by omega)⟩
theorem cq_x {a b : Gn m} {k : Int} {t : Nat} (h : cqS a k t b) : ∃ x, b = cnj x a := by
  obtain ⟨s, s1, s2, s3, s4, s5⟩ := h
  obtain ⟨x, hx⟩ := s5 t (Nat.le_refl _)
  exact ⟨x, s4.symm.trans hx⟩
theorem dq_x {a b : Gn m} {S : Int} {t : Nat} (h : dqS a S t b) : ∃ x, b = cnj x a := by
  obtain ⟨s, s1, s2, s3, s4, s5⟩ := h
  obtain ⟨x, hx⟩ := s5 t (Nat.le_refl _)
  exact ⟨x, s4.symm.trans hx⟩
theorem isM_1 : isM (g1 m) (gD m 1) (g1 m) := ⟨gle_rf _, gle_1.mpr (gp_D 1), fun z h1 _ => h1⟩
theorem gF_n {k : Int} {h : okT m.1 []} : gF m k [] h = gD m k := by
  unfold gF
  rw [gL_nil, g1_r]
theorem cq_n {a : Gn m} {k : Int} {t : Nat} {h : okT m.1 []} (hq : cqS a k t (gF m k [] h)) : cqS a k (t + 1) (gF m k [] h) := by
  have e : cnj (g1 m) (gF m k [] h) = gF m k [] h := cnj_1 _
  have := cq_s (i := g1 m) hq (by rw [gF_n, gi_r]; exact isM_1) (by
    rw [e]
    obtain ⟨s, s1, s2, s3, s4, s5⟩ := hq
    rw [← s4]
    exact s3 t (Nat.le_refl _))
  rw [e] at this
  exact this
theorem dq_n {a : Gn m} {k : Int} {t : Nat} {h : okT m.1 []} (hq : dqS a k t (gF m k [] h)) : dqS a k (t + 1) (gF m k [] h) := by
  have e : gm (gD m 1) (gm (gF m k [] h) (gi (gD m 1))) = gF m k [] h := by
    rw [gF_n, ← gm_as, D_cm, gm_as, gi_r, g1_r]
  have := dq_s (i := gD m 1) hq (by rw [gF_n, gi_l, gi_l]; exact isM_1) (by
    rw [e]
    obtain ⟨s, s1, s2, s3, s4, s5⟩ := hq
    rw [← s4]
    exact s3 t (Nat.le_refl _))
  rw [e] at this
  exact this
def bdF9 (k : Int) (F : List Nat) : Prop := -16 ≤ k ∧ k + (F.length : Int) ≤ 16 ∧ F.length ≤ 16
theorem xc_climb {a : Gn m} {k0 : Int} {F0 : List Nat} (hh : sO h) (h0 : foC y (h + 1000) m k0 F0) (hb : bdF9 k0 F0) (hx : ∃ h x, gF m k0 F0 h = cnj x a) : Te (fun K => ce_X10_climb vl K h y) (fun y1 => (∃ k F, foC y1 (h + 1000) m k F ∧ bdF9 k F ∧ (∃ h x, gF m k F h = cnj x a) ∧ nrs a k ∧ nls a (k + (F.length : Int))) ∧ fr (foP (h + 1000)) y y1) := by
  let Q : ow_MS → Prop := fun y1 => (∃ k F, foC y1 (h + 1000) m k F ∧ bdF9 k F ∧ (∃ h x, gF m k F h = cnj x a) ∧ nrs a k ∧ nls a (k + (F.length : Int))) ∧ fr (foP (h + 1000)) y y1
  have s10 := sz_D10 (m := m)
  have c4 : ∀ (d i t : Nat) (k : Int) (F : List Nat) (hF : okT m.1 F) (z : ow_MS), i + d = 2000 → i + (30 - t) + 31 * F.length ≤ 2000 → t ≤ 30 → foC z (h + 1000) m k F → bdF9 k F → dqS a (k + (F.length : Int)) t (gF m k F hF) → nrs a k → fr (foP (h + 1000)) y z → Tt (fun K t' => c_X10_climb vl K t' 4 (nI t) (nI i) 0 h 0 z) Q := by
    intro d
    induction d with
    | zero =>
      intro i t k F hF z hi hm ht q1 q2 q3 q4 q5
      refine u_X10_climb_4 ?_; unfold cm_X10_climb_4
      exact w_leT (a := 2000) (by omega) (by omega) (w_some ⟨⟨k, F, q1, q2, ⟨hF, dq_x q3⟩, q4, dq_ge (by omega) q3⟩, q5⟩)
    | succ d ih =>
      intro i t k F hF z hi hm ht q1 q2 q3 q4 q5
      obtain ⟨b1, b2, b3⟩ := id q2
      obtain ⟨l3, -⟩ := fo_len q1.1
      refine u_X10_climb_4 ?_; unfold cm_X10_climb_4
      refine w_leF (a := 2000) (by omega) (by omega) (w_le (a := 30) (by omega) (by omega) (fun h9 => w_some ⟨⟨k, F, q1, q2, ⟨hF, dq_x q3⟩, q4, dq_ge (by omega) q3⟩, q5⟩) (fun h9 => w_rdF q1.1.2.1 (w_rdF l3 ?_)))
      rcases List.eq_nil_or_concat F with h8 | ⟨F1, c, h8⟩
      · subst h8
        refine w_cs0 (xc_dcy0 q1) ?_
        rintro z1 rfl
        refine w_rdF q1.1.2.1 (w_rdF l3 (w_ifT (by
          have e9 : (iI k + nI ([] : List Nat).length : Int32) = iI k := by
            show iI k + nI 0 = _
            rw [nI_iI, iI_add]
            show iI (k + 0) = iI k
            rw [Int.add_zero]
          rw [e9, iI_le (by omega) (by omega) (by omega) (by omega)]
          exact Int.le_refl _) ?_))
        refine u_X10_climb_5 ?_; unfold cm_X10_climb_5
        rw [nI_1, nI_1]
        refine ih (i + 1) (t + 1) k [] hF z1 (by omega) (by have : ([] : List Nat).length = 0 := rfl; omega) (by omega) q1 q2 ?_ q4 q5
        have e0 : k + (([] : List Nat).length : Int) = k := Int.add_zero k
        rw [e0] at q3 ⊢
        exact dq_n q3
      · rw [List.concat_eq_append] at h8
        subst h8
        have len1 : (F1 ++ [c]).length = F1.length + 1 := by rw [List.length_append]; rfl
        refine w_cs0 (xc_decycle (sO_f hh) q1) ?_
        rintro z1 ⟨⟨d2, F', f1, f2, f3, f4⟩, f5⟩
        obtain ⟨u1, u2, u3, u4⟩ := dcy_F (k := k) (h := hF) q1.2.1
        have e1 := F_eq (m := m) (k := k) (hT := u2) (hF := f2.1) f4
        rw [e1] at u4
        rw [len1] at hm b2 b3 q3 l3
        have hcx' : ∃ x, gF m (k + (d2 : Int)) F' f2.1 = cnj x a := by
          obtain ⟨x, hx⟩ := dq_x q3
          refine ⟨gm x (gi (gL m [c] u1)), ?_⟩
          rw [cnj_m, ← hx, ← u4]
          unfold cnj
          rw [gi_i]
        have j0 : d2 = 0 := by
          refine Classical.byContradiction (fun hne => ?_)
          obtain ⟨x, hx⟩ := hcx'
          refine q4 x ?_
          rw [← hx]
          exact (inf_F f2).mpr (by omega)
        subst j0
        have ek : k + ((0 : Nat) : Int) = k := Int.add_zero k
        rw [ek] at u4 f1 hcx'
        have q1' : foC z1 (h + 1000) m k F' := ⟨f1, f2, q1.2.2.1, q1.2.2.2⟩
        obtain ⟨l3', -⟩ := fo_len f1
        rw [len1]
        refine w_rdF f1.2.1 (w_rdF l3' (w_if (fun hle => ?_) (fun hgt => ?_)))
        · rw [nI_iI, nI_iI, iI_add, iI_add, iI_le (by omega) (by omega) (by omega) (by omega)] at hle
          have el : F'.length = F1.length + 1 := by omega
          refine u_X10_climb_5 ?_; unfold cm_X10_climb_5
          rw [nI_1, nI_1]
          refine ih (i + 1) (t + 1) k F' f2.1 z1 (by omega) (by omega) (by omega) q1' ⟨b1, by omega, by omega⟩ ?_ q4 (fr_tr q5 f5)
          rw [el, ← u4]
          refine dq_s q3 u3 ?_
          rw [u4]
          intro h7
          have := (sup_F f2).mp h7
          omega
        · rw [nI_iI, nI_iI, iI_add, iI_add, iI_le (by omega) (by omega) (by omega) (by omega)] at hgt
          refine u_X10_climb_5 ?_; unfold cm_X10_climb_5
          rw [nI_1]
          refine ih (i + 1) 0 k F' f2.1 z1 (by omega) (by omega) (by omega) q1' ⟨b1, by omega, by omega⟩ (dq_0 ((sup_F f2).mpr (Int.le_refl _)) (fun h7 => ?_) hcx') q4 (fr_tr q5 f5)
          have := (sup_F f2).mp h7
          omega
  have c3 : ∀ (k : Int) (F : List Nat) (hF : okT m.1 F) (z : ow_MS) (x x' : Int32), foC z (h + 1000) m k F → bdF9 k F → (∃ x, gF m k F hF = cnj x a) → nrs a k → fr (foP (h + 1000)) y z → Tt (fun K t => c_X10_climb vl K t 3 x x' 0 h 0 z) Q := by
    intro k F hF z x x' q1 q2 q3 q4 q5
    obtain ⟨b1, b2, b3⟩ := id q2
    refine u_X10_climb_3 ?_; unfold cm_X10_climb_3
    refine c4 2000 0 0 k F hF z (by omega) (by omega) (by omega) q1 q2 (dq_0 ((sup_F q1.2.1).mpr (Int.le_refl _)) (fun h7 => ?_) q3) q4 q5
    have := (sup_F q1.2.1).mp h7
    omega
  have c1 : ∀ (d i t : Nat) (k : Int) (F : List Nat) (hF : okT m.1 F) (z : ow_MS), i + d = 2000 → i + (30 - t) + 31 * (16 - k).toNat ≤ 2000 → t ≤ 30 → foC z (h + 1000) m k F → bdF9 k F → cqS a k t (gF m k F hF) → fr (foP (h + 1000)) y z → Tt (fun K t' => c_X10_climb vl K t' 1 (nI t) (nI i) 0 h 0 z) Q := by
    intro d
    induction d with
    | zero =>
      intro i t k F hF z hi hm ht q1 q2 q3 q5
      refine u_X10_climb_1 ?_; unfold cm_X10_climb_1
      exact w_leT (a := 2000) (by omega) (by omega) (c3 k F hF z _ _ q1 q2 (cq_x q3) (cq_ge (by omega) q3) q5)
    | succ d ih =>
      intro i t k F hF z hi hm ht q1 q2 q3 q5
      obtain ⟨b1, b2, b3⟩ := id q2
      refine u_X10_climb_1 ?_; unfold cm_X10_climb_1
      refine w_leF (a := 2000) (by omega) (by omega) (w_le (a := 30) (by omega) (by omega) (fun h9 => c3 k F hF z _ _ q1 q2 (cq_x q3) (cq_ge (by omega) q3) q5) (fun h9 => w_rdF q1.1.2.1 ?_))
      cases F with
      | nil =>
        refine w_cs0 (xc_cyc0 q1) ?_
        rintro z1 rfl
        refine w_rdF q1.1.2.1 (w_ifT (by rw [iI_le (by omega) (by omega) (by omega) (by omega)]; exact Int.le_refl _) ?_)
        refine u_X10_climb_2 ?_; unfold cm_X10_climb_2
        rw [nI_1, nI_1]
        exact ih (i + 1) (t + 1) k [] hF z1 (by omega) (by omega) (by omega) q1 q2 (cq_n q3) q5
      | cons f F1 =>
        rw [List.length_cons] at b2 b3
        refine w_cs0 (xc_cycle (sO_f hh) q1) ?_
        rintro z1 ⟨⟨d2, F', f1, f2, f3, f4⟩, f5⟩
        obtain ⟨u1, u2, u3, u4⟩ := cyc_F (k := k) (h := hF) q1.2.1
        have e1 := F_eq (m := m) (k := k) (hT := u2) (hF := f2.1) f4
        rw [e1] at u4
        have hcx' : ∃ x, gF m (k + (d2 : Int)) F' f2.1 = cnj x a := by
          obtain ⟨x, hx⟩ := cq_x q3
          refine ⟨gm x (gL m [tuG m.1 k f] u1), ?_⟩
          rw [cnj_m, ← hx, ← u4]
        have q1' : foC z1 (h + 1000) m (k + (d2 : Int)) F' := ⟨f1, f2, by omega, by omega⟩
        refine w_rdF f1.2.1 (w_if (fun hle => ?_) (fun hgt => ?_))
        · rw [iI_le (by omega) (by omega) (by omega) (by omega)] at hle
          have j0 : d2 = 0 := by omega
          subst j0
          have ek : k + ((0 : Nat) : Int) = k := Int.add_zero k
          rw [ek] at u4 q1'
          refine u_X10_climb_2 ?_; unfold cm_X10_climb_2
          rw [nI_1, nI_1]
          refine ih (i + 1) (t + 1) k F' f2.1 z1 (by omega) (by omega) (by omega) q1' ⟨b1, by omega, by omega⟩ ?_ (fr_tr q5 f5)
          rw [← u4]
          refine cq_s q3 u3 ?_
          rw [u4]
          intro h7
          have := (inf_F f2).mp h7
          omega
        · rw [iI_le (by omega) (by omega) (by omega) (by omega)] at hgt
          refine u_X10_climb_2 ?_; unfold cm_X10_climb_2
          rw [nI_1]
          refine ih (i + 1) 0 (k + (d2 : Int)) F' f2.1 z1 (by omega) (by omega) (by omega) q1' ⟨by omega, by omega, by omega⟩ (cq_0 ((inf_F f2).mpr (Int.le_refl _)) (fun h7 => ?_) hcx') (fr_tr q5 f5)
          have := (inf_F f2).mp h7
          omega
  obtain ⟨hF, hx⟩ := hx
  obtain ⟨b1, b2, b3⟩ := id hb
  refine e_X10_climb ?_
  refine u_X10_climb_0 ?_; unfold cm_X10_climb_0
  refine c1 2000 0 0 k0 F0 hF y (by omega) (by omega) (by omega) h0 hb (cq_0 ((inf_F h0.2.1).mpr (Int.le_refl _)) (fun h7 => ?_) hx) fr_rf
  have := (inf_F h0.2.1).mp h7
  omega
end XS6B
end
section
/-! 99zzzzzzzzzzzzzzzs.xsm7 -/
/-! summit: the class's list of simple braids -/
def ls2 (k j : Nat) : Int32 := ((nI k >>> (((2 * nI j) : Int32) &&& 31)) &&& 3)
def lsSm (k : Nat) : Nat → Int32
  | 0 => 0
  | j + 1 => lsSm k j ||| (ls2 k j <<< (((4 * nI j) : Int32) &&& 31))
def lsPl (k : Nat) : Nat → Int32
  | 0 => 0
  | j + 1 => lsPl k j ||| ((1 : Int32) <<< (ls2 k j &&& 31))
def chJ (x : Int32) (i : Nat) (a : Int32) : Nat → Int32
  | 0 => a
  | d + 1 => chJ x i a d ||| (if foJ x (nI i) ≤ foJ x (nI (i + 1 + d)) then 0 else ((1 : Int32) <<< ((((4 * nI i) + nI (i + 1 + d)) : Int32) &&& 31)))
def chA9 (n : Nat) (x : Int32) : Nat → Int32
  | 0 => 0
  | i + 1 => chJ x i (chA9 n x i) (n - (i + 1))
def lsN (n i k : Nat) (L : List (Int32 × Int32)) : List (Int32 × Int32) := if lsPl k n = ((1 : Int32) <<< (nI n &&& 31)) - 1 ∧ L.length < 24 ∧ ow_bc (chA9 n (lsSm k n) n) = nI i then L ++ [(lsSm k n, chA9 n (lsSm k n) n)] else L
def lsI9 (n i : Nat) : Nat → List (Int32 × Int32) → List (Int32 × Int32)
  | 0, L => L
  | k + 1, L => lsN n i k (lsI9 n i k L)
def lsF (n : Nat) : Nat → List (Int32 × Int32)
  | 0 => []
  | i + 1 => lsI9 n (i + 1) (4 ^ n) (lsF n i)
def lsR (y : ow_MS) (h : Nat) (L : List (Int32 × Int32)) : Prop := y.1 (h + 11) = nI L.length ∧ L.length ≤ 24 ∧ ∀ s p, L[s]? = some p → y.2.1 (h + 8) s = p.1 ∧ y.2.1 (h + 9) s = p.2
section XS7B
variable {vl : Nat → Nat} {y : ow_MS} {h n : Nat}
theorem xc_changesOf {x : Int32} (h1 : y.1 (h + 1) = nI n) (hn : n ≤ 5) : Te (fun K => ce_X10_changesOf vl K h x y) (fun r => r.1 = chA9 n x n ∧ r.2 = y) := by
  let Q : Int32 × ow_MS → Prop := fun r => r.1 = chA9 n x n ∧ r.2 = y
  have c1 : ∀ (d i : Nat), i + d = n → Tt (fun K t => c_X10_changesOf vl K t 1 x (chA9 n x i) (nI i) 0 h 0 0 y) Q := by
    intro d
    induction d with
    | zero =>
      intro i hi
      have ei : i = n := by omega
      subst ei
      refine u_X10_changesOf_1 ?_; unfold cm_X10_changesOf_1
      exact w_rdF h1 (w_leT (by omega) (by omega) (w_some ⟨rfl, rfl⟩))
    | succ d ih =>
      intro i hi
      have c2 : ∀ (e f : Nat), i + 1 + f + e = n → Tt (fun K t => c_X10_changesOf vl K t 2 x (chJ x i (chA9 n x i) f) (nI i) (nI (i + 1 + f)) h 0 0 y) Q := by
        intro e
        induction e with
        | zero =>
          intro f hf
          have ef : f = n - (i + 1) := by omega
          refine u_X10_changesOf_2 ?_; unfold cm_X10_changesOf_2
          rw [nI_1 i]
          refine w_rdF h1 (w_leT (by omega) (by omega) ?_)
          rw [ef]
          exact ih (i + 1) (by omega)
        | succ e ihe =>
          intro f hf
          have c3 : ∀ (t0 : Int32), t0 = (if foJ x (nI i) ≤ foJ x (nI (i + 1 + f)) then 0 else ((1 : Int32) <<< ((((4 * nI i) + nI (i + 1 + f)) : Int32) &&& 31))) → Tt (fun K t => c_X10_changesOf vl K t 3 x (chJ x i (chA9 n x i) f) (nI i) (nI (i + 1 + f)) h t0 (chJ x i (chA9 n x i) f) y) Q := by
            intro t0 ht0
            refine u_X10_changesOf_3 ?_; unfold cm_X10_changesOf_3
            rw [nI_1 (i + 1 + f), ht0]
            exact ihe (f + 1) (by omega)
          refine u_X10_changesOf_2 ?_; unfold cm_X10_changesOf_2
          refine w_rdF h1 (w_leF (by omega) (by omega) (w_cs1 tc_image ?_))
          rintro v z ⟨e1, e2⟩
          dsimp only at e1 e2
          rw [e2]
          refine w_cs1 tc_image ?_
          rintro v2 z2 ⟨e3, e4⟩
          dsimp only at e3 e4
          rw [e4, e1, e3]
          exact w_if (fun h9 => c3 _ (if_pos h9).symm) (fun h9 => c3 _ (if_neg h9).symm)
      refine u_X10_changesOf_1 ?_; unfold cm_X10_changesOf_1
      rw [nI_1]
      exact w_rdF h1 (w_leF (by omega) (by omega) (c2 (n - (i + 1)) 0 (by omega)))
  refine e_X10_changesOf ?_
  refine u_X10_changesOf_0 ?_; unfold cm_X10_changesOf_0
  exact c1 n 0 (by omega)
theorem xc_listSimples (hh : sO h) (h1 : y.1 (h + 1) = nI n) (hn : n ≤ 4) : Te (fun K => ce_X10_listSimples vl K h y) (fun y1 => lsR y1 h (lsF n 6) ∧ fr (lsP h) y y1) := by
  let Q : ow_MS → Prop := fun y1 => lsR y1 h (lsF n 6) ∧ fr (lsP h) y y1
  have s1 : ∀ {z : ow_MS}, fr (lsP h) y z → z.1 (h + 1) = nI n := fun q => (q (h + 1) (by unfold lsP; omega)).1.trans h1
  have p4 : 4 ^ n ≤ 256 := by
    have : n = 0 ∨ n = 1 ∨ n = 2 ∨ n = 3 ∨ n = 4 := by omega
    rcases this with rfl | rfl | rfl | rfl | rfl <;> decide
  have hsh : (1 : Int32) <<< (((2 * nI n) : Int32) &&& 31) = nI (4 ^ n) := sh_n ⟨n, by omega⟩
  have c1 : ∀ (d i : Nat) (z : ow_MS), i + d = 6 → lsR z h (lsF n i) → fr (lsP h) y z → Tt (fun K t => c_X10_listSimples vl K t 1 (nI (i + 1)) 0 0 0 0 h 0 z) Q := by
    intro d
    induction d with
    | zero =>
      intro i z hi q qf
      have ei : i = 6 := by omega
      subst ei
      refine u_X10_listSimples_1 ?_; unfold cm_X10_listSimples_1
      exact w_ltT (a := 6) (by omega) (by omega) (w_some ⟨q, qf⟩)
    | succ d ih =>
      intro i z hi q qf
      have c2 : ∀ (e k : Nat) (z : ow_MS), k + e = 4 ^ n → lsR z h (lsI9 n (i + 1) k (lsF n i)) → fr (lsP h) y z → Tt (fun K t => c_X10_listSimples vl K t 2 (nI (i + 1)) (nI k) 0 0 0 h 0 z) Q := by
        intro e
        induction e with
        | zero =>
          intro k z hk q qf
          have ek : k = 4 ^ n := by omega
          subst ek
          refine u_X10_listSimples_2 ?_; unfold cm_X10_listSimples_2
          refine w_rdF (s1 qf) ?_
          rw [hsh, nI_1]
          exact w_leT (by omega) (by omega) (ih (i + 1) z (by omega) q qf)
        | succ e ihe =>
          intro k z hk q qf
          generalize hL : lsI9 n (i + 1) k (lsF n i) = L at q
          have eN : lsI9 n (i + 1) (k + 1) (lsF n i) = lsN n (i + 1) k L := by
            show lsN n (i + 1) k (lsI9 n (i + 1) k (lsF n i)) = _
            rw [hL]
          have c6 : ∀ (a b c : Int32) (z : ow_MS), lsR z h (lsN n (i + 1) k L) → fr (lsP h) y z → Tt (fun K t => c_X10_listSimples vl K t 6 (nI (i + 1)) (nI k) a b c h 0 z) Q := by
            intro a b c z q qf
            refine u_X10_listSimples_6 ?_; unfold cm_X10_listSimples_6
            rw [nI_1]
            exact ihe (k + 1) z (by omega) (by rw [eN]; exact q) qf
          have no : ¬ (lsPl k n = ((1 : Int32) <<< (nI n &&& 31)) - 1 ∧ L.length < 24 ∧ ow_bc (chA9 n (lsSm k n) n) = nI (i + 1)) → ∀ (a b c : Int32), Tt (fun K t => c_X10_listSimples vl K t 6 (nI (i + 1)) (nI k) a b c h 0 z) Q := fun h9 a b c => c6 a b c z (by unfold lsN; rw [if_neg h9]; exact q) qf
          have c5 : ∀ (b c t0 : Int32), (t0 = 0 ∧ ¬ (lsPl k n = ((1 : Int32) <<< (nI n &&& 31)) - 1 ∧ L.length < 24) ∨ t0 = 1 ∧ lsPl k n = ((1 : Int32) <<< (nI n &&& 31)) - 1 ∧ L.length < 24) → Tt (fun K t => c_X10_listSimples vl K t 5 (nI (i + 1)) (nI k) (lsSm k n) b c h t0 z) Q := by
            intro b c t0 ht
            refine u_X10_listSimples_5 ?_; unfold cm_X10_listSimples_5
            rcases ht with ⟨rfl, ht⟩ | ⟨rfl, p1, p2⟩
            · exact w_ifT rfl (no (fun h9 => ht ⟨h9.1, h9.2.1⟩) _ _ _)
            · refine w_ifF (by decide) (w_cs1 (xc_changesOf (s1 qf) (by omega)) ?_)
              rintro v z1 ⟨e0, e1⟩
              dsimp only at e0 e1
              rw [e1, e0]
              refine w_if (fun hb => w_rdF q.1 (w_ctI (sO_8 hh) rfl p2 (w_rdF (x := nI L.length) q.1 (w_cs1 (xc_changesOf (y := usI z (h + 8) L.length (lsSm k n)) (show (usI z (h + 8) L.length (lsSm k n)).1 (h + 1) = nI n from s1 (z := z) qf) (by omega)) ?_)))) (fun hb => no (fun h9 => hb h9.2.2) _ _ _)
              rintro v2 z2 ⟨e2, e3⟩
              dsimp only at e2 e3
              rw [e3, e2]
              refine w_ctI (sO_9 hh) rfl p2 (w_rdF (x := nI L.length) q.1 (w_wrF ?_))
              rw [nI_1]
              refine c6 _ _ _ _ ?_ (fr_F2 (fr_I2 (fr_I2 qf (by unfold lsP; omega)) (by unfold lsP; omega)) (by unfold lsP; omega))
              have eL : lsN n (i + 1) k L = L ++ [(lsSm k n, chA9 n (lsSm k n) n)] := if_pos ⟨p1, p2, hb⟩
              rw [eL]
              refine ⟨?_, by rw [List.length_append]; show L.length + 1 ≤ 24; omega, fun s p hs => ?_⟩
              · rw [List.length_append]
                exact po_usF_at
              · have hl := (List.getElem?_eq_some_iff.mp hs).1
                rw [List.length_append, List.length_singleton] at hl
                show (usI (usI z (h + 8) L.length (lsSm k n)) (h + 9) L.length (chA9 n (lsSm k n) n)).2.1 (h + 8) s = p.1 ∧ (usI (usI z (h + 8) L.length (lsSm k n)) (h + 9) L.length (chA9 n (lsSm k n) n)).2.1 (h + 9) s = p.2
                by_cases es : s = L.length
                · rw [es, List.getElem?_append_right (Nat.le_refl _), Nat.sub_self] at hs
                  have ep : (lsSm k n, chA9 n (lsSm k n) n) = p := Option.some.inj hs
                  rw [es, ← ep]
                  exact ⟨rd_ot (by omega) po_usI_at, po_usI_at⟩
                · rw [List.getElem?_append_left (by omega)] at hs
                  obtain ⟨r1, r2⟩ := q.2.2 s p hs
                  exact ⟨rd_ot (by omega) (rd_ne es r1), rd_ne es (rd_ot (by omega) r2)⟩
          have c3 : ∀ (f j : Nat), j + f = n → Tt (fun K t => c_X10_listSimples vl K t 3 (nI (i + 1)) (nI k) (lsSm k j) (lsPl k j) (nI j) h 0 z) Q := by
            intro f
            induction f with
            | zero =>
              intro j hj
              have ej : j = n := by omega
              rw [ej]
              have c4 : ¬ (lsPl k n = ((1 : Int32) <<< (nI n &&& 31)) - 1 ∧ L.length < 24) → Tt (fun K t => c_X10_listSimples vl K t 4 (nI (i + 1)) (nI k) (lsSm k n) (lsPl k n) (nI n) h 0 z) Q := by
                intro h9
                refine u_X10_listSimples_4 ?_; unfold cm_X10_listSimples_4
                exact c5 _ _ 0 (Or.inl ⟨rfl, h9⟩)
              refine u_X10_listSimples_3 ?_; unfold cm_X10_listSimples_3
              rw [show uw_len (cX vl) z (h + 8) = 24 from sO_8 hh]
              exact w_rdF (s1 qf) (w_leT (by omega) (by omega) (w_rdF (s1 qf) (w_if (fun hp => w_rdF q.1 (w_le (a := 24) (by omega) (by have := q.2.1; omega) (fun h9 => c4 (fun h8 => by omega)) (fun h9 => c5 _ _ 1 (Or.inr ⟨rfl, hp, h9⟩)))) (fun hp => c4 (fun h8 => hp h8.1)))))
            | succ f ihf =>
              intro j hj
              refine u_X10_listSimples_3 ?_; unfold cm_X10_listSimples_3
              rw [nI_1]
              exact w_rdF (s1 qf) (w_leF (by omega) (by omega) (ihf (j + 1) (by omega)))
          refine u_X10_listSimples_2 ?_; unfold cm_X10_listSimples_2
          refine w_rdF (s1 qf) ?_
          rw [hsh]
          exact w_leF (by omega) (by omega) (c3 n 0 (by omega))
      refine u_X10_listSimples_1 ?_; unfold cm_X10_listSimples_1
      exact w_ltF (a := 6) (by omega) (by omega) (c2 (4 ^ n) 0 z (by omega) q qf)
  refine e_X10_listSimples ?_
  refine u_X10_listSimples_0 ?_; unfold cm_X10_listSimples_0
  exact w_wrF (c1 6 0 _ (by omega) ⟨po_usF_at, Nat.zero_le 24, fun s p hs => (by simp [lsF] at hs)⟩ (fr_F (by unfold lsP; omega)))
end XS7B
end
section
/-! 99zzzzzzzzzzzzzzzt.xsm8 -/
/-! summit: which simple braids the class lists, and which begin with which -/
def orG (n : Nat) : List Nat := if n = 4 then [3, 2, 1, 8, 7, 5, 6, 4, 14, 13, 11, 12, 10, 9, 19, 17, 18, 16, 15, 22, 21, 20, 23] else if n = 3 then [2, 1, 4, 3, 5] else [1]
def chG9 (n s : Nat) : Int32 := chA9 n (pkG n s) n
theorem ls_2 : lsF 2 6 = (orG 2).map (fun t => (pkG 2 t, chG9 2 t)) := by decide +kernel
theorem ls_3 : lsF 3 6 = (orG 3).map (fun t => (pkG 3 t, chG9 3 t)) := by decide +kernel
theorem ls_4 : lsF 4 6 = (orG 4).map (fun t => (pkG 4 t, chG9 4 t)) := by decide +kernel
def gGO (n s t : Nat) : Bool := decide ((chG9 n s &&& (chG9 n t ^^^ (-1))) = 0) == decide (ddG n t s = 0)
theorem go_2 : ∀ s : Fin 2, ∀ t : Fin 2, gGO 2 s.val t.val = true := by decide +kernel
theorem go_3 : ∀ s : Fin 6, ∀ t : Fin 6, gGO 3 s.val t.val = true := by decide +kernel
theorem go_4 : ∀ s : Fin 24, ∀ t : Fin 24, gGO 4 s.val t.val = true := by decide +kernel
def gOR (n : Nat) : Bool := decide (orG n).Nodup && (List.range (gNN n)).all (fun t => decide (t = 0) || (orG n).contains t) && (orG n).all (fun t => decide (t ≠ 0 ∧ t < gNN n))
theorem or_c : ∀ n : Fin 5, 2 ≤ n.val → gOR n.val = true := by decide +kernel
section XS8B
theorem ls_n {n : Nat} (h2 : 2 ≤ n) (h4 : n ≤ 4) : lsF n 6 = (orG n).map (fun t => (pkG n t, chG9 n t)) := by
  have : n = 2 ∨ n = 3 ∨ n = 4 := by omega
  rcases this with rfl | rfl | rfl
  · exact ls_2
  · exact ls_3
  · exact ls_4
theorem go_n {n s t : Nat} (h2 : 2 ≤ n) (h4 : n ≤ 4) (hs : s < gNN n) (ht : t < gNN n) : (chG9 n s &&& (chG9 n t ^^^ (-1))) = 0 ↔ ddG n t s = 0 := by
  have k : gGO n s t = true := by
    have : n = 2 ∨ n = 3 ∨ n = 4 := by omega
    rcases this with rfl | rfl | rfl
    · exact go_2 ⟨s, hs⟩ ⟨t, ht⟩
    · exact go_3 ⟨s, hs⟩ ⟨t, ht⟩
    · exact go_4 ⟨s, hs⟩ ⟨t, ht⟩
  unfold gGO at k
  exact decide_eq_decide.mp (beq_iff_eq.mp k)
theorem or_n {n : Nat} (h2 : 2 ≤ n) (h4 : n ≤ 4) : (orG n).Nodup ∧ (∀ t, t < gNN n → t ≠ 0 → t ∈ orG n) ∧ ∀ t, t ∈ orG n → t ≠ 0 ∧ t < gNN n := by
  have k := or_c ⟨n, by omega⟩ h2
  unfold gOR at k
  rw [Bool.and_eq_true, Bool.and_eq_true] at k
  refine ⟨of_decide_eq_true k.1.1, fun t t1 t0 => ?_, fun t ht => of_decide_eq_true (List.all_eq_true.mp k.2 t ht)⟩
  have := List.all_eq_true.mp k.1.2 t (List.mem_range.mpr t1)
  rcases (Bool.or_eq_true _ _).mp this with h9 | h9
  · exact absurd (of_decide_eq_true h9) t0
  · exact List.contains_iff_mem.mp h9
end XS8B
end
section
/-! 99zzzzzzzzzzzzzzzu.xsm9 -/
/-! summit: the class's rows and their order -/
def cmpL : List Int32 → List Int32 → Int
  | a :: A, b :: B => if a = b then cmpL A B else if b ≤ a then 1 else -1
  | _, _ => 0
def ltF (n : Nat) (A B : List Nat) : Prop := cmpL (A.map (pkG n)) (B.map (pkG n)) = -1
section XS9B
theorem cm_v : ∀ (A B : List Int32), cmpL A B = 0 ∨ cmpL A B = 1 ∨ cmpL A B = -1
  | [], _ => Or.inl (by cases ‹List Int32› <;> rfl)
  | _ :: _, [] => Or.inl rfl
  | a :: A, b :: B => by
    have e0 : cmpL (a :: A) (b :: B) = if a = b then cmpL A B else if b ≤ a then 1 else -1 := rfl
    rw [e0]
    by_cases e : a = b
    · rw [if_pos e]
      exact cm_v A B
    · rw [if_neg e]
      by_cases c : b ≤ a
      · rw [if_pos c]
        exact Or.inr (Or.inl rfl)
      · rw [if_neg c]
        exact Or.inr (Or.inr rfl)
theorem cm_0 : ∀ (A B : List Int32), A.length = B.length → cmpL A B = 0 → A = B
  | [], [], _, _ => rfl
  | [], _ :: _, h, _ => by cases h
  | _ :: _, [], h, _ => by cases h
  | a :: A, b :: B, h, e => by
    have e : (if a = b then cmpL A B else if b ≤ a then 1 else -1) = 0 := e
    by_cases c : a = b
    · rw [if_pos c] at e
      rw [c, cm_0 A B (Nat.succ.inj h) e]
    · rw [if_neg c] at e
      by_cases d : b ≤ a
      · rw [if_pos d] at e
        cases e
      · rw [if_neg d] at e
        cases e
theorem cm_rf : ∀ (A : List Int32), cmpL A A = 0
  | [] => rfl
  | a :: A => by
    show (if a = a then cmpL A A else _) = 0
    rw [if_pos rfl]
    exact cm_rf A
theorem cm_an : ∀ (A B : List Int32), cmpL A B = 1 → cmpL B A = -1
  | [], [], h => by cases h
  | [], _ :: _, h => by cases h
  | _ :: _, [], h => by cases h
  | a :: A, b :: B, h => by
    have h : (if a = b then cmpL A B else if b ≤ a then 1 else -1) = 1 := h
    show (if b = a then cmpL B A else if a ≤ b then 1 else -1) = -1
    by_cases c : a = b
    · rw [if_pos c] at h
      rw [if_pos c.symm]
      exact cm_an A B h
    · rw [if_neg c] at h
      rw [if_neg (fun e => c e.symm)]
      by_cases d : b ≤ a
      · rw [if_neg]
        intro d2
        rw [Int32.le_iff_toInt_le] at d d2
        exact c (Int32.toInt_inj.mp (Int.le_antisymm d2 d))
      · rw [if_neg d] at h
        cases h
theorem cm_tr : ∀ (A B C : List Int32), cmpL A B = -1 → cmpL B C = -1 → cmpL A C = -1
  | [], [], _, h, _ => by cases h
  | [], _ :: _, _, h, _ => by cases h
  | _ :: _, [], _, h, _ => by cases h
  | _ :: _, _ :: _, [], _, h => by cases h
  | a :: A, b :: B, c :: C, h, k => by
    have h : (if a = b then cmpL A B else if b ≤ a then 1 else -1) = -1 := h
    have k : (if b = c then cmpL B C else if c ≤ b then 1 else -1) = -1 := k
    show (if a = c then cmpL A C else if c ≤ a then 1 else -1) = -1
    by_cases e1 : a = b
    · rw [if_pos e1] at h
      by_cases e2 : b = c
      · rw [if_pos e2] at k
        rw [if_pos (e1.trans e2)]
        exact cm_tr A B C h k
      · rw [if_neg e2] at k
        rw [e1, if_neg e2]
        exact k
    · rw [if_neg e1] at h
      by_cases d1 : b ≤ a
      · rw [if_pos d1] at h
        cases h
      · by_cases e2 : b = c
        · rw [← e2, if_neg e1, if_neg d1]
        · rw [if_neg e2] at k
          by_cases d2 : c ≤ b
          · rw [if_pos d2] at k
            cases k
          · rw [Int32.le_iff_toInt_le] at d1 d2
            have d3 : ¬ c ≤ a := fun h9 => by
              rw [Int32.le_iff_toInt_le] at h9
              omega
            have e3 : a ≠ c := fun h9 => d3 (by rw [h9, Int32.le_iff_toInt_le]; exact Int.le_refl _)
            rw [if_neg e3, if_neg d3]
variable {vl : Nat → Nat} {y : ow_MS} {h : Nat}
theorem xc_compare {r1 r3 a b A B l : Nat} {L M : List Int32} (h3 : y.1 (h + 3) = nI l) (hl : l ≤ 24) (L1 : ((cX vl).2 r1).2.1 = A) (L3 : ((cX vl).2 r3).2.1 = B) (ha : a + l ≤ A) (hb : b + l ≤ B) (hA : A < 2 ^ 31) (hB : B < 2 ^ 31) (lL : L.length = l) (lM : M.length = l) (eL : ∀ i c, L[i]? = some c → y.2.1 r1 (a + i) = c) (eM : ∀ i c, M[i]? = some c → y.2.1 r3 (b + i) = c) : Te (fun K => ce_X10_compare vl K h r1 (nI a) r3 (nI b) y) (fun r => r.1 = iI (cmpL L M) ∧ r.2 = y) := by
  let Q : Int32 × ow_MS → Prop := fun r => r.1 = iI (cmpL L M) ∧ r.2 = y
  have c1 : ∀ (d j : Nat), j + d = l → cmpL L M = cmpL (L.drop j) (M.drop j) → Tt (fun K t => c_X10_compare vl K t 1 (nI a) (nI b) (nI j) h r1 r3 y) Q := by
    intro d
    induction d with
    | zero =>
      intro j hj he
      refine u_X10_compare_1 ?_; unfold cm_X10_compare_1
      refine w_rdF h3 (w_leT (by omega) (by omega) (w_some ⟨?_, rfl⟩))
      show (0 : Int32) = iI (cmpL L M)
      rw [he, List.drop_eq_nil_of_le (by omega)]
      rfl
    | succ d ih =>
      intro j hj he
      have k1 : L.drop j = L[j]'(by omega) :: L.drop (j + 1) := List.drop_eq_getElem_cons (by omega)
      have k2 : M.drop j = M[j]'(by omega) :: M.drop (j + 1) := List.drop_eq_getElem_cons (by omega)
      rw [k1, k2] at he
      have he : cmpL L M = if L[j]'(by omega) = M[j]'(by omega) then cmpL (L.drop (j + 1)) (M.drop (j + 1)) else if M[j]'(by omega) ≤ L[j]'(by omega) then 1 else -1 := he
      have v1 := eL j _ (List.getElem?_eq_getElem (by omega))
      have v2 := eM j _ (List.getElem?_eq_getElem (by omega))
      refine u_X10_compare_1 ?_; unfold cm_X10_compare_1
      rw [nI_add, nI_add, nI_1]
      refine w_rdF h3 (w_leF (by omega) (by omega) (w_crI L1 rfl (show a + j < A by omega) v1 (w_crI L3 rfl (show b + j < B by omega) v2 (w_if (fun e => ih (j + 1) (by omega) ?_) (fun e => w_crI L1 rfl (show a + j < A by omega) v1 (w_crI L3 rfl (show b + j < B by omega) v2 (w_if (fun e2 => w_some ⟨?_, rfl⟩) (fun e2 => w_some ⟨?_, rfl⟩))))))))
      · rw [he, if_pos e]
      · show (1 : Int32) = iI (cmpL L M)
        rw [he, if_neg e, if_pos e2]
        rfl
      · show (-1 : Int32) = iI (cmpL L M)
        rw [he, if_neg e, if_neg e2]
        rfl
  refine e_X10_compare ?_
  refine u_X10_compare_0 ?_; unfold cm_X10_compare_0
  exact c1 l 0 (by omega) rfl
/-- the rows of a summit set, and their order -/
def suL (y : ow_MS) (h : Nat) (m : N5) (k : Int) (R : Nat) (Ls W : List (List Nat)) : Prop := (y.1 (h + 2) = iI k ∧ y.1 (h + 3) = nI R ∧ y.1 (h + 4) = nI Ls.length ∧ Ls.length ≤ 201 ∧ R ≤ 16) ∧ (∀ j F, Ls[j]? = some F → F.length = R ∧ okT m.1 F ∧ ∀ i c, (F.map (pkG m.1))[i]? = some c → y.2.1 (h + 5) (20 * j + i) = c) ∧ W.length = Ls.length ∧ (∀ i F, W[i]? = some F → ∃ j, y.2.1 (h + 6) i = nI j ∧ Ls[j]? = some F) ∧ W.Pairwise (ltF m.1) ∧ (∀ F, F ∈ Ls ↔ F ∈ W) ∧ Ls.Nodup
theorem pk_inj {m : N5} : ∀ (F G : List Nat), okT m.1 F → okT m.1 G → F.map (pkG m.1) = G.map (pkG m.1) → F = G
  | [], [], _, _, _ => rfl
  | [], _ :: _, _, _, e => by cases e
  | _ :: _, [], _, _, e => by cases e
  | f :: F, g :: G, hF, hG, e => by
    obtain ⟨a1, a2⟩ := okT_c.mp hF
    obtain ⟨b1, b2⟩ := okT_c.mp hG
    obtain ⟨e1, e2⟩ := List.cons.inj e
    rw [d_qi m.2.1 m.2.2 a1 b1 e1, pk_inj F G a2 b2 e2]
theorem xc_add {m : N5} {k : Int} {R : Nat} {Ls W : List (List Nat)} {F : List Nat} (hh : sO h) (h0 : suL y h m k R Ls W) (hF : okT m.1 F) (lF : F.length = R) (eF : ∀ i c, (F.map (pkG m.1))[i]? = some c → y.2.1 (h + 1000 + 4) i = c) : Te (fun K => ce_X10_add vl K h y) (fun y1 => (F ∈ Ls ∧ suL y1 h m k R Ls W ∨ F ∉ Ls ∧ (Ls.length = 201 ∧ suL y1 h m k R Ls W ∨ Ls.length ≤ 200 ∧ ∃ W', suL y1 h m k R (Ls ++ [F]) W')) ∧ fr (fun g => h + 4 ≤ g ∧ g ≤ h + 6) y y1) := by
  obtain ⟨⟨s2, s3, s4, l201, r16⟩, hrow, wl, hord, hpw, hmem, hnd⟩ := id h0
  let Q : ow_MS → Prop := fun y1 => (F ∈ Ls ∧ suL y1 h m k R Ls W ∨ F ∉ Ls ∧ (Ls.length = 201 ∧ suL y1 h m k R Ls W ∨ Ls.length ≤ 200 ∧ ∃ W', suL y1 h m k R (Ls ++ [F]) W')) ∧ fr (fun g => h + 4 ≤ g ∧ g ≤ h + 6) y y1
  have c3 : ∀ (a : Nat) (x2 x3 : Int32), a ≤ Ls.length → (∀ i G, i < a → W[i]? = some G → ltF m.1 G F) → (∀ i G, a ≤ i → W[i]? = some G → cmpL (G.map (pkG m.1)) (F.map (pkG m.1)) = 1) → Tt (fun K t => c_X10_add vl K t 3 (nI a) x2 x3 0 0 h y) Q := by
    intro a x2 x3 ha hlo hhi
    have nin : F ∉ Ls := fun h9 => by
      obtain ⟨i, hi⟩ := List.getElem?_of_mem ((hmem F).mp h9)
      rcases Nat.lt_or_ge i a with c | c
      · have := hlo i F c hi
        unfold ltF at this
        rw [cm_rf] at this
        cases this
      · have := hhi i F c hi
        rw [cm_rf] at this
        cases this
    refine u_X10_add_3 ?_; unfold cm_X10_add_3
    refine w_rdF s4 (w_lt (a := 200) (by omega) (by omega) (fun h9 => w_some ⟨Or.inr ⟨nin, Or.inl ⟨by omega, h0⟩⟩, fr_rf⟩) (fun h200 => w_rdF s3 (w_leT (b := 20) (by omega) (by omega) (w_rdF s4 (w_rdF s3 ?_)))))
    rw [m20]
    refine w_cpI (a := 0) (b := 20 * Ls.length) (n := R) (fO_4 (sO_f hh)) (sO_5 hh) rfl rfl rfl (by omega) (by omega) (w_rdF (x := nI Ls.length) s4 ?_)
    rw [show nI Ls.length - nI a = nI (Ls.length - a) from pk_sub ha, nI_1]
    refine w_cpI (a := a) (b := a + 1) (n := Ls.length - a) (sO_6 hh) (sO_6 hh) rfl rfl rfl (by omega) (by omega) (w_rdF (x := nI Ls.length) s4 (w_ctI (sO_6 hh) rfl (show a < 201 by omega) (w_rdF (x := nI Ls.length) s4 (w_wrF ?_))))
    rw [nI_1]
    have ll : (Ls ++ [F]).length = Ls.length + 1 := by rw [List.length_append]; rfl
    refine w_some ⟨Or.inr ⟨nin, Or.inr ⟨by omega, W.take a ++ F :: W.drop a, ⟨rf_ot (by omega) s2, rf_ot (by omega) s3, by rw [ll]; exact po_usF_at, by omega, r16⟩, fun j G hj => ?_, ?_, fun i G hi => ?_, ?_, fun G => ?_, ?_⟩⟩, fr_F2 (fr_I2 (fr_R2 (fr_R2 fr_rf (by omega)) (by omega)) (by omega)) (by omega)⟩
    · have hjl := (List.getElem?_eq_some_iff.mp hj).1
      rw [ll] at hjl
      have e5 : ∀ q, (usI (usR (usR y (h + 5) (va_cpy (y.2.1 (h + 1000 + 4)) (y.2.1 (h + 5)) 0 (20 * Ls.length) R)) (h + 6) (va_cpy ((usR y (h + 5) (va_cpy (y.2.1 (h + 1000 + 4)) (y.2.1 (h + 5)) 0 (20 * Ls.length) R)).2.1 (h + 6)) ((usR y (h + 5) (va_cpy (y.2.1 (h + 1000 + 4)) (y.2.1 (h + 5)) 0 (20 * Ls.length) R)).2.1 (h + 6)) a (a + 1) (Ls.length - a))) (h + 6) a (nI Ls.length)).2.1 (h + 5) q = va_cpy (y.2.1 (h + 1000 + 4)) (y.2.1 (h + 5)) 0 (20 * Ls.length) R q := fun q => by
        refine rd_ot (by omega) ?_
        rw [usR_ot (by omega), usR_at]
      by_cases ej : j = Ls.length
      · rw [ej, List.getElem?_append_right (Nat.le_refl _), Nat.sub_self] at hj
        have eG : F = G := Option.some.inj hj
        rw [← eG, ej]
        refine ⟨lF, hF, fun i c hc => (e5 _).trans ?_⟩
        have hil := (List.getElem?_eq_some_iff.mp hc).1
        rw [List.length_map] at hil
        rw [pk_cpy_in (by omega) (by omega), show 0 + (20 * Ls.length + i - 20 * Ls.length) = i by omega]
        exact eF i c hc
      · rw [List.getElem?_append_left (by omega)] at hj
        obtain ⟨g1, g2, g3⟩ := hrow j G hj
        refine ⟨g1, g2, fun i c hc => (e5 _).trans ?_⟩
        have hil := (List.getElem?_eq_some_iff.mp hc).1
        rw [List.length_map] at hil
        rw [pk_cpy_out (by omega)]
        exact g3 i c hc
    · rw [List.length_append, List.length_cons, List.length_take, List.length_drop, ll]
      omega
    · have e6 : (usR y (h + 5) (va_cpy (y.2.1 (h + 1000 + 4)) (y.2.1 (h + 5)) 0 (20 * Ls.length) R)).2.1 (h + 6) = y.2.1 (h + 6) := usR_ot (by omega)
      show ∃ j, (usI (usR (usR y (h + 5) (va_cpy (y.2.1 (h + 1000 + 4)) (y.2.1 (h + 5)) 0 (20 * Ls.length) R)) (h + 6) (va_cpy ((usR y (h + 5) (va_cpy (y.2.1 (h + 1000 + 4)) (y.2.1 (h + 5)) 0 (20 * Ls.length) R)).2.1 (h + 6)) ((usR y (h + 5) (va_cpy (y.2.1 (h + 1000 + 4)) (y.2.1 (h + 5)) 0 (20 * Ls.length) R)).2.1 (h + 6)) a (a + 1) (Ls.length - a))) (h + 6) a (nI Ls.length)).2.1 (h + 6) i = nI j ∧ (Ls ++ [F])[j]? = some G
      rw [e6]
      have hil := (List.getElem?_eq_some_iff.mp hi).1
      rw [List.length_append, List.length_cons, List.length_take, List.length_drop] at hil
      by_cases c1 : i < a
      · rw [List.getElem?_append_left (by rw [List.length_take]; omega), List.getElem?_take_of_lt c1] at hi
        obtain ⟨j, j1, j2⟩ := hord i G hi
        have jl := (List.getElem?_eq_some_iff.mp j2).1
        refine ⟨j, rd_ne (by omega) ?_, by rw [List.getElem?_append_left jl]; exact j2⟩
        rw [usR_at, pk_cpy_out (by omega)]
        exact j1
      · rw [List.getElem?_append_right (by rw [List.length_take]; omega), List.length_take, Nat.min_eq_left (by omega)] at hi
        by_cases c2 : i = a
        · rw [c2, Nat.sub_self] at hi
          have eG : F = G := Option.some.inj hi
          rw [c2, ← eG]
          exact ⟨Ls.length, po_usI_at, by rw [List.getElem?_append_right (Nat.le_refl _), Nat.sub_self]; rfl⟩
        · obtain ⟨d, hd⟩ : ∃ d, i - a = d + 1 := ⟨i - a - 1, by omega⟩
          rw [hd, List.getElem?_cons_succ, List.getElem?_drop] at hi
          obtain ⟨j, j1, j2⟩ := hord (a + d) G hi
          have jl := (List.getElem?_eq_some_iff.mp j2).1
          refine ⟨j, rd_ne c2 ?_, by rw [List.getElem?_append_left jl]; exact j2⟩
          rw [usR_at, pk_cpy_in (by omega) (by omega), show a + (i - (a + 1)) = a + d by omega]
          exact j1
    · have hp2 := hpw
      rw [← List.take_append_drop a W, List.pairwise_append] at hp2
      rw [List.pairwise_append, List.pairwise_cons]
      have gt : ∀ x, x ∈ W.drop a → ltF m.1 F x := fun x hx => by
        obtain ⟨i, hi⟩ := List.getElem?_of_mem hx
        rw [List.getElem?_drop] at hi
        exact cm_an _ _ (hhi (a + i) x (by omega) hi)
      have lt : ∀ x, x ∈ W.take a → ltF m.1 x F := fun x hx => by
        obtain ⟨i, hi⟩ := List.getElem?_of_mem hx
        have hil := (List.getElem?_eq_some_iff.mp hi).1
        rw [List.length_take] at hil
        rw [List.getElem?_take_of_lt (by omega)] at hi
        exact hlo i x (by omega) hi
      refine ⟨hp2.1, ⟨gt, hp2.2.1⟩, fun x hx y hy => ?_⟩
      rcases List.mem_cons.mp hy with e | e
      · rw [e]
        exact lt x hx
      · exact hp2.2.2 x hx y e
    · rw [List.mem_append, List.mem_append, hmem, List.mem_singleton, List.mem_cons]
      conv => lhs; rw [← List.take_append_drop a W, List.mem_append]
      constructor
      · rintro ((h9 | h9) | h9)
        · exact Or.inl h9
        · exact Or.inr (Or.inr h9)
        · exact Or.inr (Or.inl h9)
      · rintro (h9 | h9 | h9)
        · exact Or.inl (Or.inl h9)
        · exact Or.inr h9
        · exact Or.inl (Or.inr h9)
    · exact List.nodup_append.mpr ⟨hnd, List.nodup_cons.mpr ⟨List.not_mem_nil, List.nodup_nil⟩, fun x hx y hy e => nin (by rw [List.mem_singleton.mp hy] at e; rw [← e]; exact hx)⟩
  have c1 : ∀ (d i a b : Nat), i + d = 16 → a ≤ b → b ≤ Ls.length → b - a < 2 ^ d → (∀ i G, i < a → W[i]? = some G → ltF m.1 G F) → (∀ i G, b ≤ i → W[i]? = some G → cmpL (G.map (pkG m.1)) (F.map (pkG m.1)) = 1) → Tt (fun K t => c_X10_add vl K t 1 (nI a) (nI b) (nI i) 0 0 h y) Q := by
    intro d
    induction d with
    | zero =>
      intro i a b hi hab hbm hdd hlo hhi
      have eab : a = b := by
        have : b - a < 1 := hdd
        omega
      refine u_X10_add_1 ?_; unfold cm_X10_add_1
      exact w_leT (a := 16) (by omega) (by omega) (c3 a _ _ (by omega) hlo (by rw [eab]; exact hhi))
    | succ d ih =>
      intro i a b hi hab hbm hdd hlo hhi
      rw [Nat.pow_succ] at hdd
      refine u_X10_add_1 ?_; unfold cm_X10_add_1
      rw [nI_add, ushr1 (show a + b < 2 ^ 31 by omega)]
      refine w_leF (a := 16) (by omega) (by omega) (w_le (by omega) (by omega) (fun h9 => c3 a _ _ (by omega) hlo (by rw [show a = b by omega]; exact hhi)) (fun hlt => ?_))
      have hml : (a + b) / 2 < W.length := by omega
      have eW : W[(a + b) / 2]? = some W[(a + b) / 2] := List.getElem?_eq_getElem hml
      obtain ⟨j, j1, j2⟩ := hord _ _ eW
      have jl := (List.getElem?_eq_some_iff.mp j2).1
      obtain ⟨g1, g2, g3⟩ := hrow j _ j2
      refine w_crI (sO_6 hh) rfl (show (a + b) / 2 < 201 by omega) j1 ?_
      rw [m20]
      refine w_cs1 (xc_compare (a := 20 * j) (b := 0) (L := W[(a + b) / 2].map (pkG m.1)) (M := F.map (pkG m.1)) s3 (by omega) (sO_5 hh) (fO_4 (sO_f hh)) (by omega) (by omega) (by omega) (by omega) (by rw [List.length_map]; exact g1) (by rw [List.length_map]; exact lF) g3 (fun i c hc => by rw [Nat.zero_add]; exact eF i c hc)) ?_
      rintro v z ⟨e1, e2⟩
      dsimp only at e1 e2
      rw [e2, nI_1, e1]
      have lh : (W[(a + b) / 2].map (pkG m.1)).length = (F.map (pkG m.1)).length := by rw [List.length_map, List.length_map, g1, lF]
      rcases cm_v (W[(a + b) / 2].map (pkG m.1)) (F.map (pkG m.1)) with e9 | e9 | e9
      · rw [e9]
        have eq := pk_inj _ _ g2 hF (cm_0 _ _ lh e9)
        exact w_ifT rfl (w_some ⟨Or.inl ⟨by rw [← eq]; exact List.mem_of_getElem? j2, h0⟩, fr_rf⟩)
      · rw [e9]
        refine w_ifF (by decide) (w_ifT (by decide) ?_)
        refine u_X10_add_2 ?_; unfold cm_X10_add_2
        rw [nI_1]
        refine ih (i + 1) a ((a + b) / 2) (by omega) (by omega) (by omega) (by omega) hlo (fun i' G hi' hG => ?_)
        by_cases c : i' = (a + b) / 2
        · rw [c, eW] at hG
          rw [← Option.some.inj hG]
          exact e9
        · have l9 := (List.getElem?_eq_some_iff.mp hG).1
          have hlt9 : ltF m.1 W[(a + b) / 2] G := by
            have := List.pairwise_iff_getElem.mp hpw ((a + b) / 2) i' hml l9 (by omega)
            rw [List.getElem?_eq_getElem l9] at hG
            rw [Option.some.inj hG] at this
            exact this
          rcases cm_v (G.map (pkG m.1)) (F.map (pkG m.1)) with f9 | f9 | f9
          · exfalso
            obtain ⟨j', j1', j2'⟩ := hord i' G hG
            obtain ⟨k1, k2, k3⟩ := hrow j' G j2'
            have := cm_0 _ _ (by rw [List.length_map, List.length_map, k1, lF]) f9
            unfold ltF at hlt9
            rw [this, e9] at hlt9
            cases hlt9
          · exact f9
          · exfalso
            have := cm_tr _ _ _ hlt9 f9
            rw [e9] at this
            cases this
      · rw [e9]
        refine w_ifF (by decide) (w_ifF (by decide) ?_)
        refine u_X10_add_2 ?_; unfold cm_X10_add_2
        rw [nI_1]
        refine ih (i + 1) ((a + b) / 2 + 1) b (by omega) (by omega) (by omega) (by omega) (fun i' G hi' hG => ?_) hhi
        by_cases c : i' = (a + b) / 2
        · rw [c, eW] at hG
          rw [← Option.some.inj hG]
          exact e9
        · have l9 := (List.getElem?_eq_some_iff.mp hG).1
          have := List.pairwise_iff_getElem.mp hpw i' ((a + b) / 2) l9 hml (by omega)
          rw [List.getElem?_eq_getElem l9] at hG
          rw [Option.some.inj hG] at this
          exact cm_tr _ _ _ this e9
  refine e_X10_add ?_
  refine u_X10_add_0 ?_; unfold cm_X10_add_0
  refine w_rdF s4 (c1 16 0 0 Ls.length (by omega) (by omega) (by omega) (by omega) (fun i G hi => absurd hi (Nat.not_lt_zero _)) (fun i G hi hG => ?_))
  have := (List.getElem?_eq_some_iff.mp hG).1
  omega
end XS9B
end
section
/-! 99zzzzzzzzzzzzzzzv.xsma -/
/-! summit: the class gathers the whole set -/
def suQ9 (h g : Nat) : Prop := h + 4 ≤ g ∧ g ≤ h + 10 ∨ h + 1001 ≤ g ∧ g ≤ h + 1006
section XSAB
variable {m : N5} {vl : Nat → Nat} {y : ow_MS} {h : Nat}
theorem xc_goesOn {s t9 : Nat} {T : List Nat} (hh : sO h) (h4 : m.1 ≤ 4) (hs : s < 24) (ht : T.length ≤ 24) (hT : okT m.1 T) (ht9 : t9 < gNN m.1) (e9 : y.2.1 (h + 9) s = chG9 m.1 t9) (eT : ∀ j c, T[j]? = some c → y.2.1 (h + 10) j = chG9 m.1 c) : Te (fun K => ce_X10_goesOn vl K h (nI s) (nI T.length) y) (fun r => (r.1 = 1 ∧ (∃ t, t ∈ T ∧ ddG m.1 t9 t = 0) ∨ r.1 = 0 ∧ ∀ t, t ∈ T → ddG m.1 t9 t ≠ 0) ∧ r.2 = y) := by
  let Q : Int32 × ow_MS → Prop := fun r => (r.1 = 1 ∧ (∃ t, t ∈ T ∧ ddG m.1 t9 t = 0) ∨ r.1 = 0 ∧ ∀ t, t ∈ T → ddG m.1 t9 t ≠ 0) ∧ r.2 = y
  have c1 : ∀ (d j : Nat), j + d = T.length → (∀ i c, i < j → T[i]? = some c → ddG m.1 t9 c ≠ 0) → Tt (fun K k => c_X10_goesOn vl K k 1 (nI s) (nI T.length) (nI j) h y) Q := by
    intro d
    induction d with
    | zero =>
      intro j hj hn
      refine u_X10_goesOn_1 ?_; unfold cm_X10_goesOn_1
      refine w_leT (by omega) (by omega) (w_okZ (Or.inl rfl) (w_some ⟨Or.inr ⟨rfl, fun t ht => ?_⟩, rfl⟩))
      obtain ⟨i, hi⟩ := List.getElem?_of_mem ht
      exact hn i t (by have := (List.getElem?_eq_some_iff.mp hi).1; omega) hi
    | succ d ih =>
      intro j hj hn
      have ej : T[j]? = some (T[j]'(by omega)) := List.getElem?_eq_getElem (by omega)
      have hjk := hT _ (List.mem_of_getElem? ej)
      have gq := go_n m.2.1 h4 hjk ht9
      refine u_X10_goesOn_1 ?_; unfold cm_X10_goesOn_1
      rw [nI_1]
      refine w_leF (by omega) (by omega) (w_crI (sO_10 hh) rfl (show j < 24 by omega) (eT j _ ej) (w_crI (sO_9 hh) rfl hs e9 (w_if (fun e => w_okZ (Or.inr rfl) (w_some ⟨Or.inl ⟨rfl, _, List.mem_of_getElem? ej, gq.mp e⟩, rfl⟩)) (fun e => ih (j + 1) (by omega) (fun i c hi hc => ?_)))))
      by_cases ei : i = j
      · rw [ei, ej] at hc
        rw [← Option.some.inj hc]
        exact fun h9 => e (gq.mpr h9)
      · exact hn i c (by omega) hc
  refine e_X10_goesOn ?_
  refine u_X10_goesOn_0 ?_; unfold cm_X10_goesOn_0
  exact c1 T.length 0 (by omega) (fun i c hi => absurd hi (Nat.not_lt_zero _))
/-- what of the work form stays -/
def wkF9 (y : ow_MS) (h n : Nat) : Prop := y.1 (h + 1000 + 1) = nI n ∧ y.1 (h + 1000 + 5) = foE n ∧ y.1 (h + 1000 + 6) = foD n n
theorem suL_fr {P : Nat → Prop} {y1 : ow_MS} {k : Int} {R : Nat} {Ls W : List (List Nat)} (hf : fr P y y1) (hP : ∀ g, h + 2 ≤ g → g ≤ h + 6 → ¬ P g) (h0 : suL y h m k R Ls W) : suL y1 h m k R Ls W := by
  obtain ⟨⟨s2, s3, s4, l201, r16⟩, hrow, wl, hord, hpw, hmem, hnd⟩ := h0
  refine ⟨⟨(hf _ (hP _ (by omega) (by omega))).1.trans s2, (hf _ (hP _ (by omega) (by omega))).1.trans s3, (hf _ (hP _ (by omega) (by omega))).1.trans s4, l201, r16⟩, fun j F hj => ?_, wl, fun i F hi => ?_, hpw, hmem, hnd⟩
  · rw [(hf (h + 5) (hP _ (by omega) (by omega))).2.1]
    exact hrow j F hj
  · rw [(hf (h + 6) (hP _ (by omega) (by omega))).2.1]
    exact hord i F hi
theorem lsR_fr {P : Nat → Prop} {y1 : ow_MS} {L : List (Int32 × Int32)} (hf : fr P y y1) (hP : ∀ g, h + 8 ≤ g → g ≤ h + 11 → g ≠ h + 10 → ¬ P g) (h0 : lsR y h L) : lsR y1 h L := by
  obtain ⟨a1, a2, a3⟩ := h0
  refine ⟨(hf _ (hP _ (by omega) (by omega) (by omega))).1.trans a1, a2, fun s p hs => ?_⟩
  rw [(hf (h + 8) (hP _ (by omega) (by omega) (by omega))).2.1, (hf (h + 9) (hP _ (by omega) (by omega) (by omega))).2.1]
  exact a3 s p hs
def pcl (m : N5) (k : Int) (R : Nat) (Ls : List (List Nat)) (i t : Nat) : Prop := ∀ F hF (ht : okT m.1 [t]), Ls[i]? = some F → gle (gD m k) (cnj (gL m [t] ht) (gF m k F hF)) → gle (cnj (gL m [t] ht) (gF m k F hF)) (gD m (k + (R : Int))) → (∃ G hG, G ∈ Ls ∧ cnj (gL m [t] ht) (gF m k F hF) = gF m k G hG) ∨ ∃ t' h', t' < gNN m.1 ∧ t' ≠ 0 ∧ t' ≠ t ∧ ddG m.1 t t' = 0 ∧ gle (gD m k) (cnj (gL m [t'] h') (gF m k F hF)) ∧ gle (cnj (gL m [t'] h') (gF m k F hF)) (gD m (k + (R : Int)))
theorem pcl_m {k : Int} {R : Nat} {Ls : List (List Nat)} {i t : Nat} {G : List Nat} (hi : i < Ls.length) (h : pcl m k R Ls i t) : pcl m k R (Ls ++ [G]) i t := fun F hF ht e l u => by
  rw [List.getElem?_append_left hi] at e
  rcases h F hF ht e l u with ⟨G', hG, g1, g2⟩ | h9
  · exact Or.inl ⟨G', hG, List.mem_append_left _ g1, g2⟩
  · exact Or.inr h9
theorem pcl_all {a : Gn m} {k : Int} {R : Nat} {Ls : List (List Nat)} (h0 : ∃ F, F ∈ Ls) (hs : ∀ F, F ∈ Ls → sss a k R F) (hc : ∀ i t, i < Ls.length → t < gNN m.1 → t ≠ 0 → pcl m k R Ls i t) (F : List Nat) (hF : sss a k R F) : F ∈ Ls := by
  obtain ⟨F0, m0⟩ := h0
  obtain ⟨n0, l0, h0, x0, e0⟩ := hs F0 m0
  obtain ⟨n1, l1, h1, x1, e1⟩ := hF
  have pr := sss_pr (m := m) (k := k) (S := k + (R : Int)) (C := fun b => ∃ G h, G ∈ Ls ∧ b = gF m k G h) (fun b t ht ⟨G, hG, mG, eG⟩ t1 t0 lo up => by
    obtain ⟨i, hi⟩ := List.getElem?_of_mem mG
    rw [eG] at lo up ⊢
    rcases hc i t (List.getElem?_eq_some_iff.mp hi).1 t1 t0 G hG ht hi lo up with ⟨G', hG', g1, g2⟩ | h9
    · exact Or.inl ⟨G', hG', g1, g2⟩
    · exact Or.inr h9)
  have k1 := sss_all (m := m) (k := k) (S := k + (R : Int)) (C := fun b => ∃ G h, G ∈ Ls ∧ b = gF m k G h) pr (b := gF m k F0 h0) ⟨F0, h0, m0, rfl⟩ ((inf_F n0).mpr (Int.le_refl _)) ((sup_F n0).mpr (by omega)) (x := gm (gi x0) x1) (by
    rw [e0, ← cnj_all rfl x1, ← e1]
    exact (inf_F n1).mpr (Int.le_refl _)) (by
    rw [e0, ← cnj_all rfl x1, ← e1]
    exact (sup_F n1).mpr (by omega))
  obtain ⟨G, hG, mG, eG⟩ := k1
  rw [e0, ← cnj_all rfl x1, ← e1] at eG
  rw [(F_uni n1 (hs G mG).1 eG).2]
  exact mG
theorem xc_gather {a : Gn m} {k : Int} {R : Nat} {Ls0 W0 : List (List Nat)} (hh : sO h) (h4 : m.1 ≤ 4) (k1 : -16 ≤ k) (k2 : k + (R : Int) ≤ 16) (hr : nrs a k) (hu : nls a (k + (R : Int))) (s0 : suL y h m k R Ls0 W0) (l0 : 1 ≤ Ls0.length) (i0 : ∀ F, F ∈ Ls0 → sss a k R F) (w0 : wkF9 y h m.1) (t0 : lsR y h (lsF m.1 6)) : Te (fun K => ce_X10_gather vl K h y) (fun r => (r.1 = 1 ∧ ∃ Ls W, suL r.2 h m k R Ls W ∧ (∀ F, F ∈ Ls → sss a k R F) ∧ (Ls.length = 201 ∨ Ls.length ≤ 200 ∧ ∀ F, F ∈ Ls ↔ sss a k R F)) ∧ fr (suQ9 h) y r.2) := by
  have h2 := m.2.1
  have h5 := m.2.2
  let Q : Int32 × ow_MS → Prop := fun r => (r.1 = 1 ∧ ∃ Ls W, suL r.2 h m k R Ls W ∧ (∀ F, F ∈ Ls → sss a k R F) ∧ (Ls.length = 201 ∨ Ls.length ≤ 200 ∧ ∀ F, F ∈ Ls ↔ sss a k R F)) ∧ fr (suQ9 h) y r.2
  obtain ⟨or1, or2, or3⟩ := or_n h2 h4
  rw [ls_n h2 h4] at t0
  have tl := t0.2.1
  rw [List.length_map] at tl
  have hst : ∀ {z : ow_MS}, lsR z h ((orG m.1).map (fun t => (pkG m.1 t, chG9 m.1 t))) → z.1 (h + 11) = nI (orG m.1).length ∧ ∀ s t, (orG m.1)[s]? = some t → z.2.1 (h + 8) s = pkG m.1 t ∧ z.2.1 (h + 9) s = chG9 m.1 t := fun {z} q => by
    obtain ⟨q1, q2, q3⟩ := q
    rw [List.length_map] at q1
    exact ⟨q1, fun s t hs => q3 s (pkG m.1 t, chG9 m.1 t) (by rw [List.getElem?_map, hs]; rfl)⟩
  have c1 : ∀ (d i : Nat) (z : ow_MS) (Ls W : List (List Nat)), i + d = 202 → i ≤ Ls.length → 1 ≤ Ls.length → suL z h m k R Ls W → (∀ F, F ∈ Ls → sss a k R F) → (∀ i' t, i' < i → t < gNN m.1 → t ≠ 0 → Ls.length ≤ 200 → pcl m k R Ls i' t) → wkF9 z h m.1 → lsR z h ((orG m.1).map (fun t => (pkG m.1 t, chG9 m.1 t))) → fr (suQ9 h) y z → Tt (fun K t => c_X10_gather vl K t 1 (nI i) 0 0 h z) Q := by
    intro d
    induction d with
    | zero =>
      intro i z Ls W hi hiL
      have : i ≤ Ls.length := hiL
      intro q0 q1
      have := q1.1.2.2.2.1
      omega
    | succ d ih =>
      intro i z Ls W hi hiL hL1 q1 q2 q3 q4 q5 q6
      have hm := q1.1.2.2.2.1
      have sz := q1.1.2.2.1
      have fin : (i = Ls.length ∨ 200 < Ls.length) → Q (1, z) := fun h9 => by
        refine ⟨⟨rfl, Ls, W, q1, q2, ?_⟩, q6⟩
        by_cases c : Ls.length ≤ 200
        · have ei : i = Ls.length := by omega
          exact Or.inr ⟨c, fun F => ⟨q2 F, pcl_all ⟨Ls[0], List.getElem_mem (by omega)⟩ q2 (fun i' t a1 a2 a3 => q3 i' t (by omega) a2 a3 c) F⟩⟩
        · exact Or.inl (by omega)
      -- the simple ones
      have c2 : ∀ (e s : Nat) (T : List Nat) (z : ow_MS) (Ls W : List (List Nat)), s + e = (orG m.1).length + 1 → i < Ls.length → suL z h m k R Ls W → (∀ F, F ∈ Ls → sss a k R F) → (∀ i' t, i' < i → t < gNN m.1 → t ≠ 0 → Ls.length ≤ 200 → pcl m k R Ls i' t) → wkF9 z h m.1 → lsR z h ((orG m.1).map (fun t => (pkG m.1 t, chG9 m.1 t))) → fr (suQ9 h) y z → T.length ≤ s → (∀ j c, T[j]? = some c → z.2.1 (h + 10) j = chG9 m.1 c) → (∀ c, c ∈ T → (∃ j, j < s ∧ (orG m.1)[j]? = some c) ∧ ∀ F hF hc, Ls[i]? = some F → gle (gD m k) (cnj (gL m [c] hc) (gF m k F hF)) ∧ gle (cnj (gL m [c] hc) (gF m k F hF)) (gD m (k + (R : Int)))) → (∀ j t, j < s → (orG m.1)[j]? = some t → Ls.length ≤ 200 → pcl m k R Ls i t) → Tt (fun K k => c_X10_gather vl K k 2 (nI i) (nI T.length) (nI s) h z) Q := by
        intro e
        induction e with
        | zero =>
          intro s T z Ls W hs hiL q1 q2 q3 q4 q5 q6 p1 p2 p3 p4
          have hm := q1.1.2.2.2.1
          refine u_X10_gather_2 ?_; unfold cm_X10_gather_2
          refine w_rdF (hst q5).1 (w_leT (by omega) (by omega) ?_)
          refine u_X10_gather_5 ?_; unfold cm_X10_gather_5
          rw [nI_1]
          refine ih (i + 1) z Ls W (by omega) (by omega) (by omega) q1 q2 (fun i' t a1 a2 a3 a4 => ?_) q4 q5 q6
          by_cases ei : i' = i
          · obtain ⟨j, hj⟩ := List.getElem?_of_mem (or2 t a2 a3)
            rw [ei]
            exact p4 j t (by have := (List.getElem?_eq_some_iff.mp hj).1; omega) hj a4
          · exact q3 i' t (by omega) a2 a3 a4
        | succ e ihe =>
          intro s T z Ls W hs hiL q1 q2 q3 q4 q5 q6 p1 p2 p3 p4
          have hm := q1.1.2.2.2.1
          have sz := q1.1.2.2.1
          have c5 : (s = (orG m.1).length ∨ 200 < Ls.length) → Tt (fun K k => c_X10_gather vl K k 5 (nI i) (nI T.length) (nI s) h z) Q := by
            intro h9
            refine u_X10_gather_5 ?_; unfold cm_X10_gather_5
            rw [nI_1]
            refine ih (i + 1) z Ls W (by omega) (by omega) (by omega) q1 q2 (fun i' t a1 a2 a3 a4 => ?_) q4 q5 q6
            by_cases ei : i' = i
            · obtain ⟨j, hj⟩ := List.getElem?_of_mem (or2 t a2 a3)
              rw [ei]
              exact p4 j t (by have := (List.getElem?_eq_some_iff.mp hj).1; omega) hj a4
            · exact q3 i' t (by omega) a2 a3 a4
          refine u_X10_gather_2 ?_; unfold cm_X10_gather_2
          refine w_rdF (hst q5).1 (w_le (by omega) (by omega) (fun h9 => c5 (Or.inl (by omega))) (fun hsc => w_rdF sz (w_lt (a := 200) (by omega) (by omega) (fun h9 => c5 (Or.inr h9)) (fun h200 => ?_))))
          obtain ⟨t9, et9⟩ : ∃ t9, (orG m.1)[s]? = some t9 := ⟨_, List.getElem?_eq_getElem hsc⟩
          obtain ⟨t90, t91⟩ := or3 t9 (List.mem_of_getElem? et9)
          obtain ⟨r8, r9⟩ := (hst q5).2 s t9 et9
          have ht9k : okT m.1 [t9] := okT_c.mpr ⟨t91, okT_n⟩
          have hTk : okT m.1 T := fun c hc => by
            obtain ⟨⟨j, -, hj⟩, -⟩ := p3 c hc
            exact (or3 c (List.mem_of_getElem? hj)).2
          have c4 : ∀ (T' : List Nat) (z' : ow_MS) (Ls' W' : List (List Nat)), i < Ls'.length → suL z' h m k R Ls' W' → (∀ F, F ∈ Ls' → sss a k R F) → (∀ i' t, i' < i → t < gNN m.1 → t ≠ 0 → Ls'.length ≤ 200 → pcl m k R Ls' i' t) → wkF9 z' h m.1 → lsR z' h ((orG m.1).map (fun t => (pkG m.1 t, chG9 m.1 t))) → fr (suQ9 h) y z' → T'.length ≤ s + 1 → (∀ j c, T'[j]? = some c → z'.2.1 (h + 10) j = chG9 m.1 c) → (∀ c, c ∈ T' → (∃ j, j < s + 1 ∧ (orG m.1)[j]? = some c) ∧ ∀ F hF hc, Ls'[i]? = some F → gle (gD m k) (cnj (gL m [c] hc) (gF m k F hF)) ∧ gle (cnj (gL m [c] hc) (gF m k F hF)) (gD m (k + (R : Int)))) → (∀ j t, j < s + 1 → (orG m.1)[j]? = some t → Ls'.length ≤ 200 → pcl m k R Ls' i t) → Tt (fun K k => c_X10_gather vl K k 4 (nI i) (nI T'.length) (nI s) h z') Q := by
            intro T' z' Ls' W' b1 b2 b3 b4 b5 b6 b7 b8 b9 b10 b11
            refine u_X10_gather_4 ?_; unfold cm_X10_gather_4
            rw [nI_1]
            exact ihe (s + 1) T' z' Ls' W' (by omega) b1 b2 b3 b4 b5 b6 b7 b8 b9 b10 b11
          -- nothing is added
          have same : ∀ (z' : ow_MS), suL z' h m k R Ls W → wkF9 z' h m.1 → lsR z' h ((orG m.1).map (fun t => (pkG m.1 t, chG9 m.1 t))) → fr (suQ9 h) y z' → z'.2.1 (h + 10) = z.2.1 (h + 10) → pcl m k R Ls i t9 → Tt (fun K k => c_X10_gather vl K k 4 (nI i) (nI T.length) (nI s) h z') Q := by
            intro z' b1 b2 b3 b4 b5 b6
            refine c4 T z' Ls W hiL b1 q2 q3 b2 b3 b4 (by omega) (fun j c hc => by rw [b5]; exact p2 j c hc) (fun c hc => ?_) (fun j t hj ht a4 => ?_)
            · obtain ⟨⟨j, j1, j2⟩, r⟩ := p3 c hc
              exact ⟨⟨j, by omega, j2⟩, r⟩
            · by_cases ej : j = s
              · rw [ej, et9] at ht
                rw [← Option.some.inj ht]
                exact b6
              · exact p4 j t (by omega) ht a4
          refine w_cs1 (xc_goesOn hh h4 (show s < 24 by omega) (show T.length ≤ 24 by omega) hTk t91 r9 p2) ?_
          rintro v z1 ⟨ev, e2⟩
          dsimp only at ev e2
          rw [e2]
          rcases ev with ⟨rfl, t', t1', t2'⟩ | ⟨rfl, hno⟩
          · refine w_ifF (by decide) (same z q1 q4 q5 q6 rfl (fun F hF ht eF l u => Or.inr ?_))
            obtain ⟨⟨j, j1, j2⟩, r⟩ := p3 t' t1'
            obtain ⟨w0, w1⟩ := or3 t' (List.mem_of_getElem? j2)
            refine ⟨t', okT_c.mpr ⟨w1, okT_n⟩, w1, w0, fun e9 => ?_, t2', r F hF _ eF⟩
            rw [e9] at j2
            have := (List.getElem?_inj (List.getElem?_eq_some_iff.mp j2).1 or1).mp (j2.trans et9.symm)
            omega
          · obtain ⟨F, eF⟩ : ∃ F, Ls[i]? = some F := ⟨_, List.getElem?_eq_getElem hiL⟩
            obtain ⟨rF1, rF2, rF3⟩ := q1.2.1 i F eF
            obtain ⟨nF, lF, hF, xF, exF⟩ := q2 F (List.mem_of_getElem? eF)
            have r16 := q1.1.2.2.2.2
            refine w_ifT rfl (w_rdF q1.1.1 (w_wrF ?_))
            have e3 : ∀ w : Int32, (usF z (h + 1000 + 2) w).1 (h + 3) = nI R := fun w => rf_ot (by omega) q1.1.2.1
            refine w_rdF (e3 _) (w_wrF (w_rdF (rf_ot (by omega) (e3 _)) ?_))
            rw [m20]
            refine w_cpI (a := 20 * i) (b := 0) (n := R) (sO_5 hh) (fO_4 (sO_f hh)) rfl rfl rfl (by omega) (by omega) (w_crI (sO_8 hh) rfl (show s < 24 by omega) ((congrFun (usR_ot (by omega)) s).trans r8) ?_)
            obtain ⟨wk1, wk5, wk6⟩ := q4
            have u1 : (usF (usF z (h + 1000 + 2) (iI k)) (h + 1000 + 3) (nI R)).1 (h + 1000 + 1) = nI m.1 := rf_ot (by omega) (rf_ot (by omega) wk1)
            have u2 : (usF (usF z (h + 1000 + 2) (iI k)) (h + 1000 + 3) (nI R)).1 (h + 1000 + 2) = iI k := rf_ot (by omega) po_usF_at
            have u3 : (usF (usF z (h + 1000 + 2) (iI k)) (h + 1000 + 3) (nI R)).1 (h + 1000 + 3) = nI R := po_usF_at
            have u5 : (usF (usF z (h + 1000 + 2) (iI k)) (h + 1000 + 3) (nI R)).1 (h + 1000 + 5) = foE m.1 := rf_ot (by omega) (rf_ot (by omega) wk5)
            have u6 : (usF (usF z (h + 1000 + 2) (iI k)) (h + 1000 + 3) (nI R)).1 (h + 1000 + 6) = foD m.1 m.1 := rf_ot (by omega) (rf_ot (by omega) wk6)
            have u45 : (usF (usF z (h + 1000 + 2) (iI k)) (h + 1000 + 3) (nI R)).2.1 = z.2.1 := rfl
            have fzz : fr (foP (h + 1000)) z (usF (usF z (h + 1000 + 2) (iI k)) (h + 1000 + 3) (nI R)) := fr_F2 (fr_F (by unfold foP; omega)) (by unfold foP; omega)
            generalize usF (usF z (h + 1000 + 2) (iI k)) (h + 1000 + 3) (nI R) = zz at u1 u2 u3 u5 u6 u45 fzz ⊢
            rw [u45]
            have hC : foC (usR zz (h + 1000 + 4) (va_cpy (z.2.1 (h + 5)) (z.2.1 (h + 1000 + 4)) (20 * i) 0 R)) (h + 1000) m k F := by
              refine ⟨⟨u1, u2, ?_, by rw [List.length_map]; omega, fun j c hc => ?_, u5, u6⟩, nF, by omega, by omega⟩
              · rw [List.length_map, lF]
                exact u3
              · have hjl := (List.getElem?_eq_some_iff.mp hc).1
                rw [List.length_map] at hjl
                rw [usR_at, pk_cpy_in (by omega) (by omega), Nat.sub_zero]
                exact rF3 j c hc
            refine w_cs0 (xc_conjBy (sO_f hh) h4 t91 (by omega) hC) ?_
            rintro z2 ⟨⟨d2, F', g1, g2, g3, g4⟩, g5⟩
            have hf2 : fr (foP (h + 1000)) z z2 := fr_tr (fr_R2 fzz (by unfold foP; omega)) g5
            have np : ∀ g, g ≤ h + 1000 → ¬ foP (h + 1000) g := fun g hg h9 => by unfold foP at h9; omega
            have q12 : suL z2 h m k R Ls W := suL_fr hf2 (fun g a1 a2 => np _ (by omega)) q1
            have q52 : lsR z2 h ((orG m.1).map (fun t => (pkG m.1 t, chG9 m.1 t))) := lsR_fr hf2 (fun g a1 a2 _ => np _ (by omega)) q5
            have q62 : fr (suQ9 h) y z2 := fr_tr q6 (fr_mono (fun g hg => by unfold foP at hg; unfold suQ9; omega) hf2)
            have q42 : wkF9 z2 h m.1 := ⟨g1.1, g1.2.2.2.2.2.1, g1.2.2.2.2.2.2⟩
            have e10 : z2.2.1 (h + 10) = z.2.1 (h + 10) := (hf2 _ (np _ (by omega))).2.1
            have hUk : okT m.1 (tuG m.1 k (ahG m.1 t9) :: F ++ [t9]) := okT_a.mpr ⟨okT_c.mpr ⟨tu_lt h2 h5 (f_one h2 h5 t91).2.1, nF.1⟩, ht9k⟩
            have eG : cnj (gL m [t9] ht9k) (gF m k F hF) = gF m (k - 1 + (d2 : Int)) F' g2.1 := (cj_F t91 (h3 := hUk)).trans (F_eq g4)
            have ecn : cnj (gL m [t9] ht9k) (gF m k F hF) = cnj (gm xF (gL m [t9] ht9k)) a := by
              rw [cnj_m, ← exF]
            have a1 : k - 1 + (d2 : Int) ≤ k := by
              rcases Int.lt_or_le k (k - 1 + (d2 : Int)) with h9 | h9
              · exfalso
                refine hr (gm xF (gL m [t9] ht9k)) ?_
                rw [← ecn, eG]
                exact (inf_F g2).mpr (by omega)
              · exact h9
            have a2 : (R : Int) ≤ k - 1 + (d2 : Int) - k + (F'.length : Int) := by
              rcases Int.lt_or_le (k - 1 + (d2 : Int) + (F'.length : Int)) (k + (R : Int)) with h9 | h9
              · exfalso
                refine hu (gm xF (gL m [t9] ht9k)) ?_
                rw [← ecn, eG]
                exact (sup_F g2).mpr (by omega)
              · omega
            obtain ⟨l3', -⟩ := fo_len g1
            have out : (k - 1 + (d2 : Int) ≠ k ∨ F'.length ≠ R) → pcl m k R Ls i t9 := fun hne F9 hF9 ht eF9 l u => by
              exfalso
              have e9 : F9 = F := Option.some.inj (eF9.symm.trans eF)
              subst e9
              have l : gle (gD m k) (cnj (gL m [t9] ht9k) (gF m k F9 hF)) := l
              have u : gle (cnj (gL m [t9] ht9k) (gF m k F9 hF)) (gD m (k + (R : Int))) := u
              rw [eG] at l u
              have l1 := (inf_F g2).mp l
              have u1 := (sup_F g2).mp u
              omega
            have go4 : (k - 1 + (d2 : Int) ≠ k ∨ F'.length ≠ R) → Tt (fun K k => c_X10_gather vl K k 4 (nI i) (nI T.length) (nI s) h z2) Q := fun hne => same z2 q12 q42 q52 q62 e10 (out hne)
            have c3 : Tt (fun K k => c_X10_gather vl K k 3 (nI i) (nI T.length) (nI s) h z2) Q := by
              refine u_X10_gather_3 ?_; unfold cm_X10_gather_3
              refine w_rdF g1.2.1 (w_rdF q12.1.1 (w_if (fun ek => w_rdF l3' (w_rdF q12.1.2.1 (w_eqN (by omega) (by omega) (fun el => ?_) (fun el => go4 (Or.inr el))))) (fun ek => go4 (Or.inl (fun e9 => ek (by rw [e9]))))))
              have ekk : k - 1 + (d2 : Int) = k := (iI_eq (by omega) (by omega) (by omega) (by omega)).mp ek
              have sF' : sss a k R F' := by
                rw [ekk] at eG
                exact ⟨g2, el, g2.1, gm xF (gL m [t9] ht9k), by rw [← eG, ecn]⟩
              have lo9 : gle (gD m k) (cnj (gL m [t9] ht9k) (gF m k F hF)) ∧ gle (cnj (gL m [t9] ht9k) (gF m k F hF)) (gD m (k + (R : Int))) := by
                rw [eG, ekk]
                exact ⟨(inf_F g2).mpr (Int.le_refl _), (sup_F g2).mpr (by omega)⟩
              refine w_cs0 (xc_add hh q12 g2.1 el (fun i c hc => g1.2.2.2.2.1 i c hc)) ?_
              rintro z3 ⟨hres, f3⟩
              obtain ⟨Ls', W', hL', hsub, hin, hs3, hgr⟩ : ∃ Ls' W', Ls'.length ≤ 201 ∧ (∀ j, j < Ls.length → Ls'[j]? = Ls[j]?) ∧ F' ∈ Ls' ∧ suL z3 h m k R Ls' W' ∧ (Ls' = Ls ∨ Ls' = Ls ++ [F']) := by
                rcases hres with ⟨u1, u2⟩ | ⟨u1, ⟨u2, u3⟩ | ⟨u2, W', u3⟩⟩
                · exact ⟨Ls, W, hm, fun _ _ => rfl, u1, u2, Or.inl rfl⟩
                · omega
                · exact ⟨Ls ++ [F'], W', by rw [List.length_append]; show Ls.length + 1 ≤ 201; omega, fun j hj => List.getElem?_append_left hj, List.mem_append_right _ List.mem_cons_self, u3, Or.inr rfl⟩
              have hm3 : ∀ G, G ∈ Ls' → sss a k R G := fun G hG => by
                rcases hgr with e9 | e9
                · rw [e9] at hG
                  exact q2 G hG
                · rw [e9] at hG
                  exact (List.mem_append.mp hG).elim (q2 G) (fun h9 => by rw [List.mem_singleton.mp h9]; exact sF')
              have hpl : ∀ {i' t : Nat}, i' < Ls.length → pcl m k R Ls i' t → pcl m k R Ls' i' t := fun hi' hp => by
                rcases hgr with e9 | e9
                · rw [e9]
                  exact hp
                · rw [e9]
                  exact pcl_m hi' hp
              have hll : Ls.length ≤ Ls'.length := by
                rcases hgr with e9 | e9
                · rw [e9]
                  exact Nat.le_refl _
                · rw [e9, List.length_append]
                  omega
              have f3n : ∀ g, h + 7 ≤ g → ¬ (h + 4 ≤ g ∧ g ≤ h + 6) := fun g hg => by omega
              have q53 : lsR z3 h ((orG m.1).map (fun t => (pkG m.1 t, chG9 m.1 t))) := lsR_fr f3 (fun g a1 a2 _ => f3n _ (by omega)) q52
              obtain ⟨-, r93⟩ := (hst q53).2 s t9 et9
              refine w_crI (sO_9 hh) rfl (show s < 24 by omega) r93 (w_ctI (sO_10 hh) rfl (show T.length < 24 by omega) ?_)
              rw [nI_1]
              have lT : (T ++ [t9]).length = T.length + 1 := by rw [List.length_append]; rfl
              rw [← lT]
              have f34 : fr (fun g => g = h + 10) z3 (usI z3 (h + 10) T.length (chG9 m.1 t9)) := fr_I rfl
              refine c4 (T ++ [t9]) _ Ls' W' (by omega) (suL_fr f34 (fun g a1 a2 => by omega) hs3) hm3 (fun i' t b1 b2 b3 b4 => hpl (by omega) (q3 i' t b1 b2 b3 (by omega))) ⟨(f3 _ (f3n _ (by omega))).1.trans q42.1, (f3 _ (f3n _ (by omega))).1.trans q42.2.1, (f3 _ (f3n _ (by omega))).1.trans q42.2.2⟩ (lsR_fr f34 (fun g a1 a2 a3 => a3) q53) (fr_tr (fr_tr q62 (fr_mono (fun g hg => by unfold suQ9; omega) f3)) (fr_mono (fun g hg => by unfold suQ9; omega) f34)) (by omega) (fun j c hc => ?_) (fun c hc => ?_) (fun j t hj ht b4 => ?_)
              · have hjl := (List.getElem?_eq_some_iff.mp hc).1
                rw [lT] at hjl
                by_cases ej : j = T.length
                · rw [ej, List.getElem?_append_right (Nat.le_refl _), Nat.sub_self] at hc
                  have : t9 = c := Option.some.inj hc
                  rw [ej, ← this]
                  exact po_usI_at
                · rw [List.getElem?_append_left (by omega)] at hc
                  refine rd_ne ej ?_
                  rw [(f3 _ (f3n _ (by omega))).2.1, e10]
                  exact p2 j c hc
              · rcases List.mem_append.mp hc with h9 | h9
                · obtain ⟨⟨j, j1, j2⟩, r⟩ := p3 c h9
                  refine ⟨⟨j, by omega, j2⟩, fun F9 hF9 hc9 eF9 => ?_⟩
                  rw [hsub i hiL] at eF9
                  exact r F9 hF9 hc9 eF9
                · have ec := List.mem_singleton.mp h9
                  subst ec
                  refine ⟨⟨s, by omega, et9⟩, fun F9 hF9 hc9 eF9 => ?_⟩
                  rw [hsub i hiL] at eF9
                  have e9 : F9 = F := Option.some.inj (eF9.symm.trans eF)
                  subst e9
                  exact lo9
              · by_cases ej : j = s
                · rw [ej, et9] at ht
                  rw [← Option.some.inj ht]
                  intro F9 hF9 ht99 eF9 l u
                  rw [hsub i hiL] at eF9
                  have e9 : F9 = F := Option.some.inj (eF9.symm.trans eF)
                  subst e9
                  refine Or.inl ⟨F', g2.1, hin, ?_⟩
                  have := eG
                  rw [ekk] at this
                  exact this
                · exact hpl hiL (p4 j t (by omega) ht (by omega))
            refine w_rdF g1.2.1 (w_rdF q12.1.1 (w_ifF (by rw [iI_lt (by omega) (by omega) (by omega) (by omega)]; omega) (w_rdF g1.2.1 (w_rdF q12.1.1 (w_if (fun ek => w_rdF l3' (w_rdF q12.1.2.1 (w_leT (by omega) (by
              have ekk : k - 1 + (d2 : Int) = k := (iI_eq (by omega) (by omega) (by omega) (by omega)).mp ek
              omega) c3))) (fun _ => c3))))))
      refine u_X10_gather_1 ?_; unfold cm_X10_gather_1
      exact w_rdF sz (w_le (by omega) (by omega) (fun h9 => w_okZ (Or.inr rfl) (w_some (fin (Or.inl (by omega))))) (fun him => w_rdF sz (w_lt (a := 200) (by omega) (by omega) (fun h9 => w_okZ (Or.inr rfl) (w_some (fin (Or.inr h9)))) (fun h200 => c2 ((orG m.1).length + 1) 0 [] z Ls W (by omega) him q1 q2 q3 q4 q5 q6 (Nat.zero_le _) (fun j c hc => (by simp at hc)) (fun c hc => absurd hc List.not_mem_nil) (fun j t hj => absurd hj (Nat.not_lt_zero _))))))
  refine e_X10_gather ?_
  refine u_X10_gather_0 ?_; unfold cm_X10_gather_0
  exact c1 202 0 y Ls0 W0 (by omega) (Nat.zero_le _) l0 s0 i0 (fun i' t hi => absurd hi (Nat.not_lt_zero _)) w0 t0 fr_rf
end XSAB
end
section
/-! 99zzzzzzzzzzzzzzzw.xsmb -/
/-! summit: the class's find and sameAs -/
section XSBB
variable {m : N5} {vl : Nat → Nat} {y : ow_MS} {h g : Nat}
theorem xc_beginS {k : Int} {F : List Nat} (hh : sO h) (h0 : foC y (h + 1000) m k F) (hl : F.length ≤ 16) : Te (fun K => ce_X10_begin vl K h y) (fun y1 => (∃ W, suL y1 h m k F.length [F] W) ∧ wkF9 y1 h m.1 ∧ fr (fun g => h + 2 ≤ g ∧ g ≤ h + 6) y y1) := by
  obtain ⟨⟨a1, a2, a3, a4, a5, a6, a7⟩, hn, k1, k2⟩ := h0
  rw [List.length_map] at a3
  refine e_X10_begin ?_; unfold cm_X10_begin_0
  refine w_rdF a2 (w_wrF (w_rdF (x := nI F.length) (rf_ot (by omega) a3) (w_wrF (w_wrF ?_))))
  have e2 : (usF (usF (usF y (h + 2) (iI k)) (h + 3) (nI F.length)) (h + 4) 0).1 (h + 2) = iI k := rf_ot (by omega) (rf_ot (by omega) po_usF_at)
  have e3 : (usF (usF (usF y (h + 2) (iI k)) (h + 3) (nI F.length)) (h + 4) 0).1 (h + 3) = nI F.length := rf_ot (by omega) po_usF_at
  have e4 : (usF (usF (usF y (h + 2) (iI k)) (h + 3) (nI F.length)) (h + 4) 0).1 (h + 4) = 0 := po_usF_at
  have fz : fr (fun g => h + 2 ≤ g ∧ g ≤ h + 6) y (usF (usF (usF y (h + 2) (iI k)) (h + 3) (nI F.length)) (h + 4) 0) := fr_F2 (fr_F2 (fr_F (by omega)) (by omega)) (by omega)
  generalize usF (usF (usF y (h + 2) (iI k)) (h + 3) (nI F.length)) (h + 4) 0 = z at e2 e3 e4 fz
  have s0 : suL z h m k F.length [] [] := ⟨⟨e2, e3, e4, by decide, hl⟩, fun j G hj => (by simp at hj), rfl, fun i G hi => (by simp at hi), List.Pairwise.nil, fun G => Iff.rfl, List.nodup_nil⟩
  refine w_cs0 (xc_add hh s0 hn.1 rfl (fun i c hc => by rw [(fz (h + 1000 + 4) (by omega)).2.1]; exact a5 i c hc)) ?_
  rintro y1 ⟨hres, hf⟩
  have f1 : fr (fun g => h + 2 ≤ g ∧ g ≤ h + 6) y y1 := fr_tr fz (fr_mono (fun g hg => by omega) hf)
  refine w_some ⟨?_, ⟨(f1 _ (by omega)).1.trans a1, (f1 _ (by omega)).1.trans a6, (f1 _ (by omega)).1.trans a7⟩, f1⟩
  rcases hres with ⟨u1, -⟩ | ⟨-, ⟨u2, -⟩ | ⟨-, W', u3⟩⟩
  · exact absurd u1 List.not_mem_nil
  · exact absurd u2 (by decide)
  · exact ⟨W', u3⟩
/-- what find leaves -/
def fnC (y : ow_MS) (h : Nat) (m : N5) (a : Gn m) (v : Int32) (k : Int) (R : Nat) (Ls W : List (List Nat)) : Prop := suL y h m k R Ls W ∧ y.1 (h + 1) = nI m.1 ∧ nrs a k ∧ nls a (k + (R : Int)) ∧ (∀ F, F ∈ Ls → sss a k R F) ∧ -16 ≤ k ∧ k + (R : Int) ≤ 16 ∧ (∃ F, F ∈ Ls) ∧ (v = nI Ls.length ∧ Ls.length ≤ 200 ∧ (∀ F, F ∈ Ls ↔ sss a k R F) ∨ v = -2 ∧ Ls.length = 201)
theorem xc_findS {a : Gn m} {k0 : Int} {F0 : List Nat} (hh : sO h) (hg : fO g) (hd : g + 7 ≤ h) (h4 : m.1 ≤ 4) (h0 : foC y g m k0 F0) (hb : bdF9 k0 F0) (hx : ∃ h x, gF m k0 F0 h = cnj x a) : Te (fun K => ce_X10_find vl K h g y) (fun r => (∃ k R Ls W, fnC r.2 h m a r.1 k R Ls W) ∧ fr (suP h) y r.2) := by
  let Q : Int32 × ow_MS → Prop := fun r => (∃ k R Ls W, fnC r.2 h m a r.1 k R Ls W) ∧ fr (suP h) y r.2
  have c1 : ∀ (z : ow_MS), foC z (h + 1000) m k0 F0 → lsR z h (lsF m.1 6) → z.1 (h + 1) = nI m.1 → fr (suP h) y z → Tt (fun K t => c_X10_find vl K t 1 (nI 0) h g z) Q := by
    intro z q1 q2 q3 q4
    refine u_X10_find_1 ?_; unfold cm_X10_find_1
    refine w_leF (a := 100) (b := 0) (by omega) (by omega) (w_cs0 (xc_climb hh q1 hb hx) ?_)
    rintro z1 ⟨⟨k, F, f1, ⟨f2, f3, f4⟩, ⟨hF, x, f5⟩, f6, f7⟩, g2⟩
    refine w_cs0 (xc_beginS hh f1 f4) ?_
    rintro z2 ⟨⟨W, s2⟩, w2, g3⟩
    have lz : lsR z2 h (lsF m.1 6) := lsR_fr g3 (fun g a1 a2 _ => by omega) (lsR_fr g2 (fun g a1 a2 _ h9 => by unfold foP at h9; omega) q2)
    have e1 : z2.1 (h + 1) = nI m.1 := (g3 _ (by omega)).1.trans ((g2 _ (by unfold foP; omega)).1.trans q3)
    refine w_cs1 (xc_gather hh h4 f2 f3 f6 f7 s2 (by rw [List.length_singleton]; omega) (fun G hG => ?_) w2 lz) ?_
    · rw [List.mem_singleton.mp hG]
      exact ⟨f1.2.1, rfl, hF, x, f5⟩
    · rintro v z3 ⟨⟨rfl, Ls, W', s3, s4, s5⟩, g4⟩
      dsimp only at s3 g4
      have f4' : fr (suP h) y z3 := fr_tr (fr_tr (fr_tr q4 (fr_mono (fun g hg => by unfold foP at hg; unfold suP; omega) g2)) (fr_mono (fun g hg => by unfold suP; omega) g3)) (fr_mono (fun g hg => by unfold suQ9 at hg; unfold suP; omega) g4)
      have e1' : z3.1 (h + 1) = nI m.1 := (g4 _ (by unfold suQ9; omega)).1.trans e1
      have hm := s3.1.2.2.2.1
      have ne : ∃ G, G ∈ Ls := by
        rcases s5 with h9 | ⟨-, h9⟩
        · exact ⟨Ls[0]'(by omega), List.getElem_mem _⟩
        · exact ⟨F, (h9 F).mpr ⟨f1.2.1, rfl, hF, x, f5⟩⟩
      refine w_ifF (by decide) (w_rdF s3.1.2.2.1 (w_le (b := 200) (by omega) (by omega) (fun h9 => w_rdF s3.1.2.2.1 (w_some ⟨⟨k, F.length, Ls, W', s3, e1', f6, f7, s4, f2, f3, ne, Or.inl ⟨rfl, h9, ?_⟩⟩, f4'⟩)) (fun h9 => w_some ⟨⟨k, F.length, Ls, W', s3, e1', f6, f7, s4, f2, f3, ne, Or.inr ⟨rfl, by omega⟩⟩, f4'⟩)))
      rcases s5 with h8 | ⟨-, h8⟩
      · omega
      · exact h8
  refine e_X10_find ?_
  refine u_X10_find_0 ?_; unfold cm_X10_find_0
  have hd2 : h + 1000 + 7 ≤ g ∨ g + 7 ≤ h + 1000 := Or.inr (by omega)
  obtain ⟨⟨a1, a2, a3, a4, a5, a6, a7⟩, hn, k1, k2⟩ := id h0
  refine w_rdF a1 (w_wrF (w_cs0 (xc_copyF (m := m) (k := k0) (F := F0) (sO_f hh) hg hd2 ⟨⟨rf_ot (by omega) a1, rf_ot (by omega) a2, rf_ot (by omega) a3, a4, a5, rf_ot (by omega) a6, rf_ot (by omega) a7⟩, hn, k1, k2⟩) ?_))
  rintro z1 ⟨g1, g2⟩
  have e1 : z1.1 (h + 1) = nI m.1 := (g2 (h + 1) (by unfold foP; omega)).1.trans po_usF_at
  refine w_cs0 (xc_listSimples hh e1 h4) ?_
  rintro z2 ⟨k1', k2'⟩
  refine c1 z2 ?_ k1' ((k2' (h + 1) (by unfold lsP; omega)).1.trans e1) (fr_tr (fr_tr (fr_F (by unfold suP; omega)) (fr_mono (fun g hg => by unfold foP at hg; unfold suP; omega) g2)) (fr_mono (fun g hg => by unfold lsP at hg; unfold suP; omega) k2'))
  exact ⟨fo_fr k2' (fun g hg h9 => by unfold foP at hg; unfold lsP at h9; omega) g1.1, g1.2⟩
theorem xc_sameAsS {k k' : Int} {R R' : Nat} {Ls W Ls' W' : List (List Nat)} (hh : sO h) (hg : sO g) (h0 : suL y h m k R Ls W) (g0 : suL y g m k' R' Ls' W') (s1 : y.1 (h + 1) = nI m.1) (s2 : y.1 (g + 1) = nI m.1) (b1 : -100 ≤ k) (b2 : k ≤ 100) (b3 : -100 ≤ k') (b4 : k' ≤ 100) : Te (fun K => ce_X10_sameAs vl K h g y) (fun r => (r.1 = 1 ∧ k = k' ∧ R = R' ∧ W = W' ∨ r.1 = 0 ∧ ¬ (k = k' ∧ R = R' ∧ W = W')) ∧ r.2 = y) := by
  obtain ⟨⟨t2, t3, t4, l201, r16⟩, hrow, wl, hord, hpw, hmem, hnd⟩ := id h0
  obtain ⟨⟨u2, u3, u4, l201', r16'⟩, hrow', wl', hord', hpw', hmem', hnd'⟩ := id g0
  let Q : Int32 × ow_MS → Prop := fun r => (r.1 = 1 ∧ k = k' ∧ R = R' ∧ W = W' ∨ r.1 = 0 ∧ ¬ (k = k' ∧ R = R' ∧ W = W')) ∧ r.2 = y
  have no : ¬ (k = k' ∧ R = R' ∧ W = W') → Tt (fun _ _ => okZ 0 (some ((0 : Int32), y))) Q := fun h9 => w_okZ (Or.inl rfl) (w_some ⟨Or.inr ⟨rfl, h9⟩, rfl⟩)
  have c1 : k = k' → R = R' → Ls.length = Ls'.length → ∀ (d i : Nat), i + d = Ls.length → (∀ j, j < i → W[j]? = W'[j]?) → Tt (fun K t => c_X10_sameAs vl K t 1 (nI i) h g y) Q := by
    intro ek eR el d
    induction d with
    | zero =>
      intro i hi hw
      have eW : W = W' := List.ext_getElem? (fun j => by
        by_cases c : j < i
        · exact hw j c
        · rw [List.getElem?_eq_none (by omega), List.getElem?_eq_none (by omega)])
      refine u_X10_sameAs_1 ?_; unfold cm_X10_sameAs_1
      exact w_rdF t4 (w_leT (by omega) (by omega) (w_okZ (Or.inr rfl) (w_some ⟨Or.inl ⟨rfl, ek, eR, eW⟩, rfl⟩)))
    | succ d ih =>
      intro i hi hw
      have e1 : W[i]? = some (W[i]'(by omega)) := List.getElem?_eq_getElem (by omega)
      have e2 : W'[i]? = some (W'[i]'(by omega)) := List.getElem?_eq_getElem (by omega)
      obtain ⟨j, j1, j2⟩ := hord i _ e1
      obtain ⟨j', j1', j2'⟩ := hord' i _ e2
      obtain ⟨r1, r2, r3⟩ := hrow j _ j2
      obtain ⟨r1', r2', r3'⟩ := hrow' j' _ j2'
      have jl := (List.getElem?_eq_some_iff.mp j2).1
      have jl' := (List.getElem?_eq_some_iff.mp j2').1
      refine u_X10_sameAs_1 ?_; unfold cm_X10_sameAs_1
      refine w_rdF t4 (w_leF (by omega) (by omega) (w_crI (sO_6 hh) rfl (show i < 201 by omega) j1 (w_crI (sO_6 hg) rfl (show i < 201 by omega) j1' ?_)))
      rw [m20, m20, nI_1]
      have lh : (W[i].map (pkG m.1)).length = (W'[i].map (pkG m.1)).length := by rw [List.length_map, List.length_map, r1, r1', eR]
      refine w_cs1 (xc_compare (a := 20 * j) (b := 20 * j') (L := W[i].map (pkG m.1)) (M := W'[i].map (pkG m.1)) t3 (by omega) (sO_5 hh) (sO_5 hg) (by omega) (by omega) (by omega) (by omega) (by rw [List.length_map]; exact r1) (by rw [List.length_map, r1', eR]) r3 r3') ?_
      rintro v z ⟨ev, e9⟩
      dsimp only at ev e9
      rw [e9, ev]
      by_cases ec : cmpL (W[i].map (pkG m.1)) (W'[i].map (pkG m.1)) = 0
      · rw [ec]
        refine w_ifT rfl (ih (i + 1) (by omega) (fun q hq => ?_))
        by_cases eq : q = i
        · rw [eq, e1, e2, pk_inj _ _ r2 r2' (cm_0 _ _ lh ec)]
        · exact hw q (by omega)
      · refine w_ifF (fun h9 => ?_) (no (fun h9 => ec ?_))
        · rcases cm_v (W[i].map (pkG m.1)) (W'[i].map (pkG m.1)) with f9 | f9 | f9
          · exact ec f9
          · rw [f9] at h9
            exact absurd h9 (by decide)
          · rw [f9] at h9
            exact absurd h9 (by decide)
        · have e8 := h9.2.2
          have e6 : W[i]? = W'[i]? := congrArg (fun X => X[i]?) e8
          have e7 : W[i]'(by omega) = W'[i]'(by omega) := Option.some.inj (e1.symm.trans (e6.trans e2))
          rw [e7]
          exact cm_rf _
  refine e_X10_sameAs ?_
  refine u_X10_sameAs_0 ?_; unfold cm_X10_sameAs_0
  refine w_rdF s1 (w_rdF s2 (w_ifT rfl (w_rdF t2 (w_rdF u2 (w_if (fun ek => w_rdF t3 (w_rdF u3 (w_eqN (by omega) (by omega) (fun eR => w_rdF t4 (w_rdF u4 (w_eqN (by omega) (by omega) (fun el => ?_) (fun el => no (fun h9 => el ?_))))) (fun eR => no (fun h9 => eR h9.2.1))))) (fun ek => no (fun h9 => ek (by rw [h9.1]))))))))
  · exact c1 ((iI_eq (by omega) (by omega) (by omega) (by omega)).mp ek) eR el Ls.length 0 (by omega) (fun j hj => absurd hj (Nat.not_lt_zero _))
  · rw [← wl, ← wl', h9.2.2]
end XSBB
end
section
/-! 99zzzzzzzzzzzzzzzx.xsmc -/
/-! summit and conjugate: the answers are one; summit of both sides -/
theorem pw_un {α : Type} {r : α → α → Prop} (hi : ∀ a b, r a b → r b a → False) : ∀ (A B : List α), A.Pairwise r → B.Pairwise r → (∀ x, x ∈ A ↔ x ∈ B) → A = B
  | [], [], _, _, _ => rfl
  | [], b :: B, _, _, h => absurd ((h b).mpr List.mem_cons_self) List.not_mem_nil
  | a :: A, [], _, _, h => absurd ((h a).mp List.mem_cons_self) List.not_mem_nil
  | a :: A, b :: B, hA, hB, h => by
    rw [List.pairwise_cons] at hA hB
    have e : a = b := by
      rcases List.mem_cons.mp ((h a).mp List.mem_cons_self) with h1 | h1
      · exact h1
      · rcases List.mem_cons.mp ((h b).mpr List.mem_cons_self) with h3 | h3
        · exact h3.symm
        · exact (hi a b (hA.1 b h3) (hB.1 a h1)).elim
    subst e
    rw [pw_un hi A B hA.2 hB.2 (fun x => ⟨fun hx => ?_, fun hx => ?_⟩)]
    · rcases List.mem_cons.mp ((h x).mp (List.mem_cons_of_mem _ hx)) with h1 | h1
      · exact (hi a a (by have := hA.1 x hx; rw [h1] at this; exact this) (by have := hA.1 x hx; rw [h1] at this; exact this)).elim
      · exact h1
    · rcases List.mem_cons.mp ((h x).mpr (List.mem_cons_of_mem _ hx)) with h1 | h1
      · exact (hi a a (by have := hB.1 x hx; rw [h1] at this; exact this) (by have := hB.1 x hx; rw [h1] at this; exact this)).elim
      · exact h1
theorem lt_as {n : Nat} (A B : List Nat) (h1 : ltF n A B) (h2 : ltF n B A) : False := by
  have := cm_tr _ _ _ h1 h2
  rw [cm_rf] at this
  exact absurd this (by decide)
section XSCC
variable {m : N5}
/-- a set of more than 200, of just c -/
def opS (a : Gn m) : Prop := ∃ (k : Int) (R : Nat), nrs a k ∧ nls a (k + (R : Int)) ∧ smB a k R
def clS (a : Gn m) (c : Nat) : Prop := ∃ (k : Int) (R : Nat), nrs a k ∧ nls a (k + (R : Int)) ∧ (∃ F, sss a k R F) ∧ c ≤ 200 ∧ cnt9 (sss a k R) c
theorem opt_uni {a : Gn m} {k k' : Int} {R R' : Nat} {F F' : List Nat} (h1 : nrs a k) (h2 : nls a (k + (R : Int))) (h3 : sss a k R F) (h1' : nrs a k') (h2' : nls a (k' + (R' : Int))) (h3' : sss a k' R' F') : k = k' ∧ R = R' := by
  obtain ⟨n, l, hF, x, e⟩ := h3
  obtain ⟨n', l', hF', x', e2⟩ := h3'
  have a1 : ¬ k + 1 ≤ k' := fun h9 => h1 x' (by rw [← e2]; exact (inf_F n').mpr h9)
  have a2 : ¬ k' + 1 ≤ k := fun h9 => h1' x (by rw [← e]; exact (inf_F n).mpr h9)
  have a3 : ¬ k + (F.length : Int) ≤ k' + (R' : Int) - 1 := fun h9 => h2' x (by rw [← e]; exact (sup_F n).mpr h9)
  have a4 : ¬ k' + (F'.length : Int) ≤ k + (R : Int) - 1 := fun h9 => h2 x' (by rw [← e2]; exact (sup_F n').mpr h9)
  rw [l] at a3
  rw [l'] at a4
  omega
theorem smB_s {a : Gn m} {k : Int} {R : Nat} (h : smB a k R) : ∃ F, sss a k R F := by
  obtain ⟨Ls, h1, h2, h3⟩ := h
  exact ⟨Ls[0], h3 _ (List.getElem_mem (by omega))⟩
theorem op_cl {a : Gn m} {c : Nat} (h : opS a) (h' : clS a c) : False := by
  obtain ⟨k, R, q1, q2, q3⟩ := h
  obtain ⟨k', R', q1', q2', ⟨F', q3'⟩, q4, L', q5, q6, q7⟩ := h'
  obtain ⟨F, hF⟩ := smB_s q3
  obtain ⟨rfl, rfl⟩ := opt_uni q1 q2 hF q1' q2' q3'
  obtain ⟨Ls, s1, s2, s3⟩ := q3
  have := nodup_le Ls L' s1 (fun F hF => (q6 F).mpr (s3 F hF))
  omega
theorem cl_cl {a : Gn m} {c c' : Nat} (h : clS a c) (h' : clS a c') : c = c' := by
  obtain ⟨k, R, q1, q2, ⟨F, q3⟩, -, q5⟩ := h
  obtain ⟨k', R', q1', q2', ⟨F', q3'⟩, -, q5'⟩ := h'
  obtain ⟨rfl, rfl⟩ := opt_uni q1 q2 q3 q1' q2' q3'
  exact cnt_uni q5 q5'
/-- what summit answers -/
def smV9 (a : Gn m) (v : Int32) : Prop := v = -2 ∧ opS a ∨ ∃ c, v = nI c ∧ clS a c
theorem sm_uni {a : Gn m} {v v' : Int32} (h : smV9 a v) (h' : smV9 a v') : v = v' := by
  rcases h with ⟨e, h⟩ | ⟨c, e, h⟩
  · rcases h' with ⟨e2, h'⟩ | ⟨c', e2, h'⟩
    · exact e.trans e2.symm
    · exact (op_cl h h').elim
  · rcases h' with ⟨e2, h'⟩ | ⟨c', e2, h'⟩
    · exact (op_cl h' h).elim
    · rw [e, e2, cl_cl h h']
/-- conjugate ones have the same set -/
theorem nrs_c {a b x : Gn m} {k : Int} (e : b = cnj x a) (h : nrs a k) : nrs b k := fun y => by
  rw [e, ← cnj_m]
  exact h _
theorem nls_c {a b x : Gn m} {s : Int} (e : b = cnj x a) (h : nls a s) : nls b s := fun y => by
  rw [e, ← cnj_m]
  exact h _
theorem cj_bk {a b x : Gn m} (e : b = cnj x a) : a = cnj (gi x) b := by
  have h := cnj_all e (g1 m)
  rw [cnj_1] at h
  rw [h]
  congr 1
  exact g1_r _
theorem sss_c {a b x : Gn m} {k : Int} {R : Nat} {F : List Nat} (e : b = cnj x a) (h : sss a k R F) : sss b k R F := by
  obtain ⟨n, l, hF, y, ey⟩ := h
  refine ⟨n, l, hF, gm (gi x) y, ?_⟩
  rw [ey]
  exact cnj_all e y
theorem cl_c {a b x : Gn m} {c : Nat} (e : b = cnj x a) (h : clS a c) : clS b c := by
  obtain ⟨k, R, q1, q2, ⟨F, q3⟩, q4, L, q5, q6, q7⟩ := h
  exact ⟨k, R, nrs_c e q1, nls_c e q2, ⟨F, sss_c e q3⟩, q4, L, q5, fun F => (q6 F).trans ⟨sss_c e, sss_c (cj_bk e)⟩, q7⟩
/-- what conjugate answers -/
def cjV9 (a b : Gn m) (v : Int32) : Prop := v = -2 ∧ (opS a ∨ opS b) ∨ (∃ c, clS a c) ∧ (∃ c, clS b c) ∧ (v = 1 ∧ (∃ x, b = cnj x a) ∨ v = 0 ∧ ¬ ∃ x, b = cnj x a)
theorem cv_uni {a b : Gn m} {v v' : Int32} (h : cjV9 a b v) (h' : cjV9 a b v') : v = v' := by
  have no : (opS a ∨ opS b) → (∃ c, clS a c) → (∃ c, clS b c) → False := fun h ⟨c, h1⟩ ⟨c', h2⟩ => h.elim (fun h9 => op_cl h9 h1) (fun h9 => op_cl h9 h2)
  rcases h with ⟨e, h⟩ | ⟨h1, h2, h3⟩
  · rcases h' with ⟨e2, h'⟩ | ⟨h1', h2', h3'⟩
    · exact e.trans e2.symm
    · exact (no h h1' h2').elim
  · rcases h' with ⟨e2, h'⟩ | ⟨h1', h2', h3'⟩
    · exact (no h' h1 h2).elim
    · rcases h3 with ⟨e, h3⟩ | ⟨e, h3⟩
      · rcases h3' with ⟨e2, h3'⟩ | ⟨e2, h3'⟩
        · exact e.trans e2.symm
        · exact absurd h3 h3'
      · rcases h3' with ⟨e2, h3'⟩ | ⟨e2, h3'⟩
        · exact absurd h3' h3
        · exact e.trans e2.symm
end XSCC
section XSCD
variable {n : Nat}
theorem fo_bd {w : Nat → Nat × Bool} : ∀ (l : Nat), (foT n w l).1.length = l ∧ -(l : Int) ≤ (foT n w l).2 ∧ (foT n w l).2 ≤ 0
  | 0 => ⟨rfl, by show -((0 : Nat) : Int) ≤ (0 : Int); omega, Int.le_refl _⟩
  | l + 1 => by
    obtain ⟨h1, h2, h3⟩ := fo_bd (w := w) l
    have e : foT n w (l + 1) = stB9 n (w l) (foT n w l) := rfl
    rw [e]
    unfold stB9
    split
    · refine ⟨?_, ?_, ?_⟩
      · simp [h1]
      · show -((l + 1 : Nat) : Int) ≤ (foT n w l).2 - 1
        omega
      · show (foT n w l).2 - 1 ≤ 0
        omega
    · refine ⟨?_, ?_, ?_⟩
      · simp [h1]
      · show -((l + 1 : Nat) : Int) ≤ (foT n w l).2
        omega
      · exact h3
theorem fo_cg {w w' : Nat → Nat × Bool} : ∀ (l : Nat), (∀ i, i < l → w i = w' i) → foT n w l = foT n w' l
  | 0, _ => rfl
  | l + 1, h => by
    show stB9 n (w l) (foT n w l) = stB9 n (w' l) (foT n w' l)
    rw [h l (Nat.lt_succ_self _), fo_cg l (fun i hi => h i (by omega))]
theorem lx_inj {p q : Nat × Bool} (hp : p.1 + 1 < 10) (hq : q.1 + 1 < 10) (h : lx9 p = lx9 q) : p = q := by
  have key : ∀ (a b : Fin 10) (s t : Bool), lx9 (a.1, s) = lx9 (b.1, t) → a = b ∧ s = t := by decide
  obtain ⟨a, s⟩ := p
  obtain ⟨b, t⟩ := q
  have hp : a + 1 < 10 := hp
  have hq : b + 1 < 10 := hq
  obtain ⟨k1, k2⟩ := key ⟨a, by omega⟩ ⟨b, by omega⟩ s t h
  cases k1
  cases k2
  rfl
theorem fo_sl (m : N5) {w : Nat → Nat × Bool} {l j : Nat} {F : List Nat} (h0 : okT m.1 (foT m.1 w l).1) (f1 : nfL m.1 F) (f2 : eqT m.1 (foT m.1 w l).1 (List.replicate j (gNN m.1 - 1) ++ F)) : F.length + j ≤ l := by
  have e := F_eq (m := m) (k := 0) (hT := h0) (hF := f1.1) f2
  have a1 : gle (gF m 0 (foT m.1 w l).1 h0) (gD m ((foT m.1 w l).1.length : Int)) := by
    unfold gF
    have : gD m 0 = g1 m := rfl
    rw [this, g1_l]
    exact sup_le _
  rw [e] at a1
  have := (sup_F f1).mp a1
  have := (fo_bd (n := m.1) (w := w) l).1
  omega
def smW (n l : Nat) (w : Nat → Nat × Bool) (v : Int32) : Prop := ∃ (hn : 2 ≤ n ∧ n ≤ 5) (h : okT n (foT n w l).1), smV9 (gF ⟨n, hn⟩ (foT n w l).2 (foT n w l).1 h) v
theorem smW_uni {l : Nat} {w w' : Nat → Nat × Bool} {v v' : Int32} (hw : ∀ i, i < l → w i = w' i) (h : smW n l w v) (h' : smW n l w' v') : v = v' := by
  unfold smW at h h'
  rw [← fo_cg l hw] at h'
  obtain ⟨hn, h1, h2⟩ := h
  obtain ⟨hn', h1', h2'⟩ := h'
  exact sm_uni h2 h2'
def cjW9 (n l : Nat) (w : Nat → Nat × Bool) (l' : Nat) (w' : Nat → Nat × Bool) (v : Int32) : Prop := ∃ (hn : 2 ≤ n ∧ n ≤ 5) (h : okT n (foT n w l).1) (h' : okT n (foT n w' l').1), cjV9 (gF ⟨n, hn⟩ (foT n w l).2 (foT n w l).1 h) (gF ⟨n, hn⟩ (foT n w' l').2 (foT n w' l').1 h') v
theorem cjW9_uni {l l' : Nat} {w w' u u' : Nat → Nat × Bool} {v v' : Int32} (hw : ∀ i, i < l → w i = u i) (hw' : ∀ i, i < l' → w' i = u' i) (h : cjW9 n l w l' w' v) (h' : cjW9 n l u l' u' v') : v = v' := by
  unfold cjW9 at h h'
  rw [← fo_cg l hw, ← fo_cg l' hw'] at h'
  obtain ⟨hn, h1, h2, h3⟩ := h
  obtain ⟨hn', h1', h2', h3'⟩ := h'
  exact cv_uni h3 h3'
end XSCD
end
section
/-! 99zzzzzzzzzzzzzzzy.xsmd -/
/-! summit answers the same -/
section XSDA
variable {X : (Nat → Nat → Int32) → Prop} {z y : ow_MS} {vl : Nat → Nat} {x x' : Int32}
def lwR (z : ow_MS) (b n l : Nat) (w : Nat → Nat × Bool) : Prop := ∀ i, i < l → (w i).1 + 1 < n ∧ z.2.1 94 (16 * b + i) = lx9 (w i)
theorem rd_w {b n l : Nat} (h : hBr z b n l) : ∃ w : Nat → Nat × Bool, lwR z b n l w := by
  refine Classical.axiomOfChoice (r := fun i p => i < l → p.1 + 1 < n ∧ z.2.1 94 (16 * b + i) = lx9 p) (fun i => ?_)
  by_cases hi : i < l
  · obtain ⟨a, a1, a2 | a2⟩ := h.2.2.2.2.2 i hi
    · exact ⟨(a, false), fun _ => ⟨a1, a2⟩⟩
    · exact ⟨(a, true), fun _ => ⟨a1, a2⟩⟩
  · exact ⟨(0, false), fun h9 => absurd h9 hi⟩
theorem lw_same {b n l : Nat} {w u : Nat → Nat × Bool} (h5 : n ≤ 5) (h : lwR z b n l w) (h' : lwR z b n l u) : ∀ i, i < l → w i = u i := fun i hi => lx_inj (by have := (h i hi).1; omega) (by have := (h' i hi).1; omega) ((h i hi).2.symm.trans (h' i hi).2)
theorem xr_sumB (m : N5) {b l : Nat} {w : Nat → Nat × Bool} (hb : b < 20) (hh : hBr z b m.1 l) (hT : tbG z) (hwd : lwR z b m.1 l w) (h0 : okT m.1 (foT m.1 w l).1) : Te (fun K => qe_X13_summitOf K (nI b) z) (fun z1 => (∃ k F, smF z1 m (gF m (foT m.1 w l).2 (foT m.1 w l).1 h0) k F) ∧ fr nmH z z1) := by
  obtain ⟨b1, b2, b3⟩ := fo_bd (n := m.1) (w := w) l
  have hl := hh.2.2.1
  exact xr_summitOf hb hh hT hwd ⟨h0, rfl⟩ (by omega) (by omega) (by omega)
theorem smF_s {m : N5} {a : Gn m} {k : Int} {F : List Nat} (h : smF z m a k F) : sss a k F.length F := by
  obtain ⟨s1, s3, s2, s4, s5, s6, s7, s8, s9⟩ := h
  exact ⟨s6, rfl, s7⟩
theorem smF_cl {m : N5} {a : Gn m} {k : Int} {F : List Nat} {Ls : List (List Nat)} (h : smF z m a k F) (hl : Ls.length ≤ 200) (hn : Ls.Nodup) (hs : ∀ G, G ∈ Ls ↔ sss a k F.length G) : clS a Ls.length := by
  have := smF_s h
  obtain ⟨s1, s3, s2, s4, s5, s6, s7, s8, s9⟩ := h
  exact ⟨k, F.length, s8, s9, ⟨F, this⟩, hl, Ls, hn, hs, rfl⟩
theorem smF_op {m : N5} {a : Gn m} {k : Int} {F : List Nat} (h : smF z m a k F) (hs : smB a k F.length) : opS a := by
  obtain ⟨s1, s3, s2, s4, s5, s6, s7, s8, s9⟩ := h
  exact ⟨k, F.length, s8, s9, hs⟩
theorem xq_summit (h : gI X z) (hG : ∀ W, X W → XG W) : Te (fun K => qe_X13_summit K x z) (fun r => (r.2.1 1 = nI 1 ∧ noB (z.2.1 96) x ∨ ∃ b n l w, b < 20 ∧ x = nI b ∧ hBr z b n l ∧ lwR z b n l w ∧ (n = 5 ∧ r.2.1 1 = nI 2 ∨ n ≤ 4 ∧ r.2.1 1 = 0 ∧ smW n l w r.1))) := by
  have h1 := gI_1 (c := 0) h
  have e10 : (usF z 1 0).1 1 = 0 := po_usF_at
  refine e_X13_summit ?_; unfold qm_X13_summit_0
  refine w_wrF (w_hasBX h1.2.2.2.2.2.1 (fun h0 => w_ifT rfl (w_mono (w_failX (k := 1) h1 fr_1) (fun r hr => Or.inl ⟨hr.2.1, h0⟩))) (fun b n l hc hx hh => w_ifF (by decide) ?_))
  subst hx
  obtain ⟨w, hw⟩ := rd_w hh
  have hn2 := hh.1
  have hn5 := hh.2.1
  have h0 : okT n (foT n w l).1 := fo_ok hn2 hn5 l (fun j hj => (hw j hj).1)
  refine w_rdI ml96 rfl (by omega) hh.2.2.2.1 (w_eqN (b := 5) (by omega) (by omega) (fun e5 => w_mono (w_failX (k := 2) h1 fr_1) (fun r hr => Or.inr ⟨b, n, l, w, hc, rfl, hh, hw, Or.inl ⟨e5, hr.2.1⟩⟩)) (fun e5 => ?_))
  have n4 : n ≤ 4 := by omega
  refine w_cs0 (xr_sumB ⟨n, hn2, hn5⟩ hc hh (gI_tb hG h1) hw h0) ?_
  rintro y ⟨⟨k, F, sf⟩, f1⟩
  have hB1 := gI_nm f1 h1
  have e96 : y.2.1 96 b = nI n := by rw [(f1 96 (by unfold nmH; omega)).2.1]; exact hh.2.2.2.1
  have e1 : y.1 1 = 0 := (f1 1 (by unfold nmH; omega)).1.trans e10
  refine w_rdI ml96 rfl (by omega) e96 (w_cs1 (xr_allForms (gI_tb hG hB1) sf) (fun v y2 ⟨hv, f2⟩ => ?_))
  dsimp only at hv f2
  have e2 : y2.1 1 = 0 := (f2 1 (by unfold afH; omega)).1.trans e1
  have fin : ∀ v, smW n l w v → Tt (fun _ _ => some (v, y2)) (fun r => (r.2.1 1 = nI 1 ∧ noB (z.2.1 96) (nI b) ∨ ∃ b' n l w, b' < 20 ∧ nI b = nI b' ∧ hBr z b' n l ∧ lwR z b' n l w ∧ (n = 5 ∧ r.2.1 1 = nI 2 ∨ n ≤ 4 ∧ r.2.1 1 = 0 ∧ smW n l w r.1))) := fun v hv => w_some (Or.inr ⟨b, n, l, w, hc, rfl, hh, hw, Or.inr ⟨n4, e2, hv⟩⟩)
  rcases hv with ⟨v1, Ls, a1, a2, a3, a4⟩ | ⟨v0, a1⟩
  · rw [v1]
    exact w_ifF (by decide) (w_rdF a1.1 (fin _ ⟨⟨hn2, hn5⟩, h0, Or.inr ⟨_, rfl, smF_cl sf a2 a3 a4⟩⟩))
  · rw [v0]
    exact w_ifT rfl (fin _ ⟨⟨hn2, hn5⟩, h0, Or.inl ⟨rfl, smF_op sf a1⟩⟩)
theorem xc_needFew {b n : Nat} (hb : b < 20) (hn : n ≤ 5) (e15 : y.2.1 15 b = nI n) : Te (fun K => ce_X11_needFewStrands vl K 0 (nI b) y) (fun r => r.2 = y ∧ (r.1 = 0 ∧ n ≤ 4 ∨ r.1 = 4 ∧ n = 5)) := by
  refine e_X11_needFewStrands ?_; unfold cm_X11_needFewStrands_0
  exact w_crI ch_15 rfl hb e15 (w_lt (b := 5) (by omega) (by omega) (fun _ => w_some ⟨rfl, Or.inl ⟨rfl, by omega⟩⟩) (fun _ => w_some ⟨rfl, Or.inr ⟨rfl, by omega⟩⟩))
theorem wr_fo (m : N5) {h : Nat} {w : Nat → Nat × Bool} {l j : Nat} {F : List Nat} (hl : l ≤ 16) (h0 : okT m.1 (foT m.1 w l).1) (q1 : foA y h m.1 (iI ((foT m.1 w l).2 + (j : Nat))) (F.map (pkG m.1))) (q3 : nfL m.1 F) (q5 : eqT m.1 (foT m.1 w l).1 (List.replicate j (gNN m.1 - 1) ++ F)) : foC y h m ((foT m.1 w l).2 + (j : Nat)) F ∧ bdF9 ((foT m.1 w l).2 + (j : Nat)) F ∧ ∃ h x, gF m ((foT m.1 w l).2 + (j : Nat)) F h = cnj x (gF m (foT m.1 w l).2 (foT m.1 w l).1 h0) := by
  obtain ⟨b1, b2, b3⟩ := fo_bd (n := m.1) (w := w) l
  have b4 := fo_sl m h0 q3 q5
  refine ⟨⟨q1, q3, by omega, by omega⟩, ⟨by omega, by omega, by omega⟩, q3.1, g1 m, ?_⟩
  rw [cnj_1]
  exact (F_eq q5).symm
theorem fn_sm {m : N5} {h : Nat} {a : Gn m} {v : Int32} {k : Int} {R : Nat} {Ls W : List (List Nat)} (h0 : fnC y h m a v k R Ls W) : v = -2 ∧ opS a ∨ v ≠ -2 ∧ v = nI Ls.length ∧ clS a Ls.length := by
  obtain ⟨s1, s2, s3, s4, s5, s6, s7, ⟨F, s8⟩, s9⟩ := h0
  obtain ⟨t1, t2, t3, t4, t5, t6, t7⟩ := s1
  rcases s9 with ⟨e, hl, hi⟩ | ⟨e, hl⟩
  · refine Or.inr ⟨fun h9 => ?_, e, k, R, s3, s4, ⟨F, s5 F s8⟩, hl, Ls, t7, hi, rfl⟩
    rw [e, nI_iI, show (-2 : Int32) = iI (-2) from rfl] at h9
    have := (iI_eq (by omega) (by omega) (by omega) (by omega)).mp h9
    omega
  · exact Or.inl ⟨e, k, R, s3, s4, Ls, t7, hl, s5⟩
theorem xc_summit (hB : brC y) : Te (fun K => ce_X11_summit vl K 0 x y) (fun r => r.1 = 1 ∧ noB (y.2.1 15) x ∨ ∃ b n l w, brW y x b n l w ∧ (r.1 = 4 ∧ n = 5 ∨ r.1 = 0 ∧ n ≤ 4 ∧ smW n l w r.2.1)) := by
  refine e_X11_summit ?_; unfold cm_X11_summit_0
  refine w_tc0 (tc_needBraid (brC_E hB)) ?_ ?_
  · rintro y1 ⟨h1, rfl⟩
    rcases h1 with ⟨-, hb⟩ | h1
    · obtain ⟨b, n, l, hb20, rfl, hn2, hn5, e15, l16, e14, hwd⟩ := isB_w hB hb
      obtain ⟨w, hw⟩ := wd_w hwd
      have hW : brW y1 (nI b) b n l w := ⟨hb20, rfl, hn2, hn5, e15, l16, e14, hw⟩
      have h0 : okT n (foT n w l).1 := fo_ok hn2 hn5 l (fun j hj => (hw j hj).1)
      refine w_tc0 (xc_needFew hb20 hn5 e15) ?_ ?_
      · rintro y2 ⟨e2, h2⟩
        dsimp only at e2 h2
        rw [e2]
        rcases h2 with ⟨-, n4⟩ | h2
        · refine w_cs0 (xc_writeF fo46 hn2 hn5 hb20 e15 l16 e14 hw) ?_
          rintro y3 ⟨F, j, k1, k3, k4, k5, k2⟩
          obtain ⟨p1, p2, p3⟩ := wr_fo ⟨n, hn2, hn5⟩ l16 h0 k1 k3 k5
          refine w_cs1 (xc_findS so48 fo46 (by omega) n4 p1 p2 p3) ?_
          rintro v y4 ⟨⟨k, R, Ls, W, q1⟩, q2⟩
          dsimp only at q1 q2
          refine w_some (Or.inr ⟨b, n, l, w, hW, Or.inr ⟨rfl, n4, ⟨hn2, hn5⟩, h0, ?_⟩⟩)
          rcases fn_sm q1 with ⟨e, q3⟩ | ⟨-, e, q3⟩
          · exact Or.inl ⟨e, q3⟩
          · exact Or.inr ⟨_, e, q3⟩
        · exact absurd h2.1 (by decide)
      · rintro a y2 ha ⟨e2, h2⟩
        dsimp only at e2 h2
        rcases h2 with ⟨h2, -⟩ | ⟨h2, n5⟩
        · exact absurd h2 ha
        · exact w_some (Or.inr ⟨b, n, l, w, hW, Or.inl ⟨h2, n5⟩⟩)
    · exact absurd (show (0 : Nat) = 1 from h1.1) (by decide)
  · rintro a y1 ha ⟨h1, rfl⟩
    rcases h1 with h1 | h1
    · exact absurd h1.1 ha
    · exact w_some (Or.inl ⟨h1.1, h1.2⟩)
theorem no_z {b n l : Nat} {w : Nat → Nat × Bool} (hR : relB z y) (r2 : noB (z.2.1 96) x) (hW : brW y x b n l w) : False := by
  obtain ⟨w1, w2, w3, w4, w5, -⟩ := hW
  have := r2 b w1 w2
  rw [(hR b w1).1, w5] at this
  exact absurd this (nI_ne0 (by omega) (by omega))
theorem no_y {b n l : Nat} (hR : relB z y) (c2 : noB (y.2.1 15) x) (hb : b < 20) (hx : x = nI b) (hh : hBr z b n l) : False := by
  have := c2 b hb hx
  rw [← (hR b hb).1, hh.2.2.2.1] at this
  exact absurd this (nI_ne0 (by have := hh.1; omega) (by have := hh.2.1; omega))
theorem c_summit (hG : ∀ W, X W → XG W) (h : rel3 X z y) : Te (fun K => qe_X13_summit K x z) (fun rr => Te (fun K => ce_X11_summit vl K 0 x y) (fun rc => rel3 X rr.2 rc.2.2 ∧ ansI [(1, 1), (2, 4)] rr rc)) := by
  have hI := r3_g h
  have hB := h.2.2.2.2.1
  have hR := h.2.2.2.1
  refine te_two (te_fo (te_and (tp_summit (b := x) hG hI) (xq_summit (x := x) hI hG)) (fun K => ff_X13_summit)) (te_fo (xc_summit (x := x) hB) (fun K => ff_X11_summit)) (fun rr rc ⟨⟨hgI, hr⟩, fR⟩ ⟨hc, fC⟩ => ⟨rel3_nf fR fC (pf_nf (by decide)) (fun g hg => by omega) hgI h, ?_⟩)
  rcases hr with ⟨r1, r2⟩ | ⟨b, n, l, u, hb, hx, hh, hu, hr⟩
  · rcases hc with ⟨c1, -⟩ | ⟨b, n, l, w, hW, -⟩
    · exact Or.inr ⟨1, 1, by simp, r1, c1⟩
    · exact (no_z hR r2 hW).elim
  · rcases hc with ⟨c1, c2⟩ | ⟨b', n', l', w, hW, hc⟩
    · exact (no_y hR c2 hb hx hh).elim
    · obtain ⟨rfl, rfl, rfl, hwz⟩ := br_same hR hb hx hh hW
      rcases hr with ⟨e5, r1⟩ | ⟨e4, r1, r2⟩
      · rcases hc with ⟨c1, -⟩ | ⟨-, c2, -⟩
        · exact Or.inr ⟨2, 4, by simp, r1, c1⟩
        · omega
      · rcases hc with ⟨-, c2⟩ | ⟨c1, -, c3⟩
        · omega
        · exact Or.inl ⟨r1, c1, smW_uni (lw_same hh.2.1 hu hwz) r2 c3⟩
end XSDA
end
section
/-! 99zzzzzzzzzzzzzzzz.xsme -/
/-! conjugate answers the same -/
section XSEA
variable {X : (Nat → Nat → Int32) → Prop} {z y : ow_MS} {vl : Nat → Nat} {x x' : Int32}
theorem xq_conjugate (h : gI X z) (hG : ∀ W, X W → XG W) : Te (fun K => qe_X13_conjugate K x x' z) (fun r => (r.2.1 1 = nI 1 ∧ (noB (z.2.1 96) x ∨ noB (z.2.1 96) x') ∨ ∃ b n l w b' n' l' w', b < 20 ∧ x = nI b ∧ hBr z b n l ∧ lwR z b n l w ∧ b' < 20 ∧ x' = nI b' ∧ hBr z b' n' l' ∧ lwR z b' n' l' w' ∧ (n ≠ n' ∧ r.2.1 1 = nI 2 ∨ n = n' ∧ n = 5 ∧ r.2.1 1 = nI 3 ∨ n = n' ∧ n ≤ 4 ∧ r.2.1 1 = 0 ∧ cjW9 n l w l' w' r.1))) := by
  have h1 := gI_1 (c := 0) h
  have e10 : (usF z 1 0).1 1 = 0 := po_usF_at
  let Q : Int32 × ow_MS → Prop := fun r => (r.2.1 1 = nI 1 ∧ (noB (z.2.1 96) x ∨ noB (z.2.1 96) x') ∨ ∃ b n l w b' n' l' w', b < 20 ∧ x = nI b ∧ hBr z b n l ∧ lwR z b n l w ∧ b' < 20 ∧ x' = nI b' ∧ hBr z b' n' l' ∧ lwR z b' n' l' w' ∧ (n ≠ n' ∧ r.2.1 1 = nI 2 ∨ n = n' ∧ n = 5 ∧ r.2.1 1 = nI 3 ∨ n = n' ∧ n ≤ 4 ∧ r.2.1 1 = 0 ∧ cjW9 n l w l' w' r.1))
  have c1 : (noB (z.2.1 96) x ∨ noB (z.2.1 96) x') → Tt (fun K i => q_X13_conjugate K i 1 x x' (usF z 1 0)) Q := by
    intro hv
    refine u_X13_conjugate_1 ?_; unfold qm_X13_conjugate_1
    exact w_mono (w_failX (k := 1) h1 fr_1) (fun r hr => Or.inl ⟨hr.2.1, hv⟩)
  refine e_X13_conjugate ?_
  refine u_X13_conjugate_0 ?_; unfold qm_X13_conjugate_0
  refine w_wrF (w_hasBX h1.2.2.2.2.2.1 (fun h0 => w_ifT rfl (c1 (Or.inl h0))) (fun b n l hc hx hh => w_ifF (by decide) (w_hasBX h1.2.2.2.2.2.1 (fun h0 => w_ifT rfl (c1 (Or.inr h0))) (fun b' n' l' hc' hx' hh' => w_ifF (by decide) ?_))))
  obtain ⟨w, hw⟩ := rd_w hh
  obtain ⟨w', hw'⟩ := rd_w hh'
  have hn2 := hh.1
  have hn5 := hh.2.1
  have hn2' := hh'.1
  have hn5' := hh'.2.1
  have fin : ∀ {r}, (n ≠ n' ∧ r.2.1 1 = nI 2 ∨ n = n' ∧ n = 5 ∧ r.2.1 1 = nI 3 ∨ n = n' ∧ n ≤ 4 ∧ r.2.1 1 = 0 ∧ cjW9 n l w l' w' r.1) → Q r := fun hr => Or.inr ⟨b, n, l, w, b', n', l', w', hc, hx, hh, hw, hc', hx', hh', hw', hr⟩
  refine w_rdI ml96 hx (by omega) hh.2.2.2.1 (w_rdI ml96 hx' (by omega) hh'.2.2.2.1 (w_eqN (by omega) (by omega) (fun en => ?_) (fun en => w_mono (w_failX (k := 2) h1 fr_1) (fun r hr => fin (Or.inl ⟨en, hr.2.1⟩)))))
  refine w_rdI ml96 hx (by omega) hh.2.2.2.1 (w_eqN (b := 5) (by omega) (by omega) (fun e5 => w_mono (w_failX (k := 3) h1 fr_1) (fun r hr => fin (Or.inr (Or.inl ⟨en, e5, hr.2.1⟩)))) (fun e5 => ?_))
  have n4 : n ≤ 4 := by omega
  rw [← en] at hh' hw'
  have h0 : okT n (foT n w l).1 := fo_ok hn2 hn5 l (fun j hj => (hw j hj).1)
  have h0' : okT n (foT n w' l').1 := fo_ok hn2 hn5 l' (fun j hj => (hw' j hj).1)
  obtain ⟨m, em⟩ : ∃ m : N5, m.1 = n := ⟨⟨n, hn2, hn5⟩, rfl⟩
  subst em
  subst hx
  subst hx'
  have fin2 : ∀ {v : Int32} {y : ow_MS}, y.1 1 = 0 → cjV9 (gF m (foT m.1 w l).2 (foT m.1 w l).1 h0) (gF m (foT m.1 w' l').2 (foT m.1 w' l').1 h0') v → Tt (fun _ _ => some (v, y)) Q := fun e hv => w_some (fin (Or.inr (Or.inr ⟨en, n4, e, ⟨hn2, hn5⟩, h0, h0', hv⟩)))
  have sb := fun (y : ow_MS) (q1 : hBr y b' m.1 l') (q2 : lwR y b' m.1 l' w') (q3 : gI X y) => xr_sumB (z := y) m hc' q1 (gI_tb hG q3) q2 h0'
  have sa := fun (y : ow_MS) (q1 : hBr y b m.1 l) (q2 : lwR y b m.1 l w) (q3 : gI X y) => xr_sumB (z := y) m hc q1 (gI_tb hG q3) q2 h0
  generalize gF m (foT m.1 w l).2 (foT m.1 w l).1 h0 = A at fin2 sa
  generalize gF m (foT m.1 w' l').2 (foT m.1 w' l').1 h0' = B at fin2 sb
  refine w_cs0 (sb _ hh' hw' h1) ?_
  rintro y1 ⟨⟨k1, F1, sf1⟩, f1⟩
  have g1' := gI_nm f1 h1
  obtain ⟨s1, s3, s2, s4, s5, s6, ⟨s7h, s7x, s7⟩, s8, s9⟩ := id sf1
  refine w_cs0 (tp_formTo (r := 118) (o := 0) ml118 (by omega) (by omega) (by omega) (by omega) s1 s3) (fun y2 ⟨p1, p2, _⟩ => ?_)
  have g2 : gI X y2 := gI_fr p2 (fun g hg => by rw [hg]; decide) g1'
  have hha : hBr y2 b m.1 l := hBr_fr p2 (by omega) (by omega) (by omega) (hBr_fr f1 (by unfold nmH; omega) (by unfold nmH; omega) (by unfold nmH; omega) hh)
  have hhb : hBr y2 b' m.1 l' := hBr_fr p2 (by omega) (by omega) (by omega) (hBr_fr f1 (by unfold nmH; omega) (by unfold nmH; omega) (by unfold nmH; omega) hh')
  have r94 : y2.2.1 94 = z.2.1 94 := (p2 94 (by omega)).2.1.trans (f1 94 (by unfold nmH; omega)).2.1
  have hwa : lwR y2 b m.1 l w := fun i hi => by rw [r94]; exact hw i hi
  have hwb : lwR y2 b' m.1 l' w' := fun i hi => by rw [r94]; exact hw' i hi
  have e12 : y2.1 1 = 0 := ((p2 1 (by omega)).1.trans (f1 1 (by unfold nmH; omega)).1).trans e10
  refine w_cs0 (sa _ hha hwa g2) ?_
  rintro y3 ⟨⟨k3, F3, sf3⟩, f3⟩
  have g3 := gI_nm f3 g2
  obtain ⟨t1, t3, t2, t4, t5, t6, t7, t8, t9⟩ := id sf3
  refine w_cs1 (xr_allForms (gI_tb hG g3) sf3) (fun v y4 ⟨hv, f4⟩ => ?_)
  dsimp only at hv f4
  have g4 := gI_af f4 g3
  have e14 : y4.1 1 = 0 := ((f4 1 (by unfold afH; omega)).1.trans (f3 1 (by unfold nmH; omega)).1).trans e12
  rcases hv with ⟨v1, Ls, a1, a2, a3, a4⟩ | ⟨v0, a1⟩
  · rw [v1]
    have cA := smF_cl sf3 a2 a3 a4
    have p4 : frwI y4 118 0 m.1 F1 k1 := frwI_fr f4 (by unfold afH; omega) (frwI_fr f3 (by unfold nmH; omega) p1)
    refine w_ifF (by decide) (w_cs1 (xr_isThere (r := 118) (Or.inr rfl) a2 a1 (fun F hF => by have := ((a4 F).mp hF).2.1; omega) p4 (by omega) (by omega) (by omega) (by omega) (by omega)) (fun v2 y5 ⟨u5, hv2⟩ => ?_))
    dsimp only at u5 hv2
    rw [u5]
    rcases hv2 with ⟨v21, ek, hm⟩ | ⟨v20, hm⟩
    · rw [v21]
      obtain ⟨_, _, hF, xa, ea⟩ := (a4 F1).mp hm
      have ec : B = cnj (gm xa (gi s7x)) A := by
        rw [cnj_m, ← ea, ← ek]
        exact cj_bk s7
      exact w_ifF (by decide) (fin2 e14 (Or.inr ⟨⟨_, cA⟩, ⟨_, cl_c ec cA⟩, Or.inl ⟨rfl, _, ec⟩⟩))
    · rw [v20]
      have nc : ¬ ∃ x, B = cnj x A := fun ⟨xx, ex⟩ => hm (by
        obtain ⟨q1, q2⟩ := opt_uni (nrs_c ex t8) (nls_c ex t9) (sss_c ex (smF_s sf3)) s8 s9 (smF_s sf1)
        refine ⟨q1.symm, (a4 F1).mpr ?_⟩
        have := sss_c (cj_bk ex) (smF_s sf1)
        rw [← q1, ← q2] at this
        exact this)
      have hhb5 : hBr y4 b' m.1 l' := hBr_fr f4 (by unfold afH; omega) (by unfold afH; omega) (by unfold afH; omega) (hBr_fr f3 (by unfold nmH; omega) (by unfold nmH; omega) (by unfold nmH; omega) hhb)
      have r944 : y4.2.1 94 = y2.2.1 94 := (f4 94 (by unfold afH; omega)).2.1.trans (f3 94 (by unfold nmH; omega)).2.1
      refine w_ifT rfl (w_cs0 (sb _ hhb5 (fun i hi => by rw [r944]; exact hwb i hi) g4) ?_)
      rintro y6 ⟨⟨k6, F6, sf6⟩, f6⟩
      have g6 := gI_nm f6 g4
      have e16 : y6.1 1 = 0 := (f6 1 (by unfold nmH; omega)).1.trans e14
      refine w_cs1 (xr_allForms (gI_tb hG g6) sf6) (fun v3 y7 ⟨hv3, f7⟩ => ?_)
      dsimp only at hv3 f7
      have e17 : y7.1 1 = 0 := (f7 1 (by unfold afH; omega)).1.trans e16
      rcases hv3 with ⟨v31, Ls3, b1, b2, b3, b4⟩ | ⟨v30, b1⟩
      · rw [v31]
        exact w_ifF (by decide) (fin2 e17 (Or.inr ⟨⟨_, cA⟩, ⟨_, smF_cl sf6 b2 b3 b4⟩, Or.inr ⟨rfl, nc⟩⟩))
      · rw [v30]
        exact w_ifT rfl (fin2 e17 (Or.inl ⟨rfl, Or.inr (smF_op sf6 b1)⟩))
  · rw [v0]
    exact w_ifT rfl (fin2 e14 (Or.inl ⟨rfl, Or.inl (smF_op sf3 a1)⟩))
theorem fn_eq {m : N5} {h g : Nat} {A B : Gn m} {v v' : Int32} {k k' : Int} {R R' : Nat} {Ls W Ls' W' : List (List Nat)} {y' : ow_MS} (h0 : fnC y h m A v k R Ls W) (g0 : fnC y' g m B v' k' R' Ls' W') (n1 : v ≠ -2) (n2 : v' ≠ -2) : (k = k' ∧ R = R' ∧ W = W') ↔ ∃ x, B = cnj x A := by
  obtain ⟨s1, s2, s3, s4, s5, s6, s7, ⟨F, s8⟩, s9⟩ := h0
  obtain ⟨t1, t2, t3, t4, t5, t6, t7, ⟨G, t8⟩, t9⟩ := g0
  have i1 : ∀ F, F ∈ W ↔ sss A k R F := fun F => by
    rw [← s1.2.2.2.2.2.1 F]
    rcases s9 with ⟨-, -, s9⟩ | ⟨s9, -⟩
    · exact s9 F
    · exact absurd s9 n1
  have i2 : ∀ F, F ∈ W' ↔ sss B k' R' F := fun F => by
    rw [← t1.2.2.2.2.2.1 F]
    rcases t9 with ⟨-, -, t9⟩ | ⟨t9, -⟩
    · exact t9 F
    · exact absurd t9 n2
  have sF := s5 F s8
  have tG := t5 G t8
  constructor
  · rintro ⟨rfl, rfl, rfl⟩
    obtain ⟨_, _, hF, xa, ea⟩ := sF
    obtain ⟨_, _, hF', xb, eb⟩ := (i2 F).mp ((i1 F).mpr (s5 F s8))
    refine ⟨gm xa (gi xb), ?_⟩
    rw [cnj_m, ← ea]
    exact cj_bk eb
  · rintro ⟨xx, ex⟩
    obtain ⟨e1, e2⟩ := opt_uni (nrs_c ex s3) (nls_c ex s4) (sss_c ex sF) t3 t4 tG
    refine ⟨e1, e2, pw_un lt_as W W' s1.2.2.2.2.1 t1.2.2.2.2.1 (fun F => ?_)⟩
    rw [i1, i2, ← e1, ← e2]
    exact ⟨sss_c ex, sss_c (cj_bk ex)⟩
theorem xc_conjugate (hB : brC y) : Te (fun K => ce_X11_conjugate vl K 0 x x' y) (fun r => r.1 = 1 ∧ (noB (y.2.1 15) x ∨ noB (y.2.1 15) x') ∨ ∃ b n l w b' n' l' w', brW y x b n l w ∧ brW y x' b' n' l' w' ∧ (n ≠ n' ∧ r.1 = 2 ∨ n = n' ∧ n = 5 ∧ r.1 = 4 ∨ n = n' ∧ n ≤ 4 ∧ r.1 = 0 ∧ cjW9 n l w l' w' r.2.1)) := by
  refine e_X11_conjugate ?_; unfold cm_X11_conjugate_0
  refine w_tc0 (tc_needBraid (brC_E hB)) ?_ ?_
  · rintro y1 ⟨h1, rfl⟩
    rcases h1 with ⟨-, hb⟩ | h1
    · obtain ⟨b, n, l, hb20, rfl, hn2, hn5, e15, l16, e14, hwd⟩ := isB_w hB hb
      refine w_tc0 (tc_needBraid (brC_E hB)) ?_ ?_
      · rintro y2 ⟨h2, e2⟩
        dsimp only at e2
        rw [e2]
        rcases h2 with ⟨-, hb'⟩ | h2
        · obtain ⟨b', n', l', hb20', rfl, hn2', hn5', e15', l16', e14', hwd'⟩ := isB_w hB hb'
          obtain ⟨w, hw⟩ := wd_w hwd
          obtain ⟨w', hw'⟩ := wd_w hwd'
          have hW : brW y1 (nI b) b n l w := ⟨hb20, rfl, hn2, hn5, e15, l16, e14, hw⟩
          have hW' : brW y1 (nI b') b' n' l' w' := ⟨hb20', rfl, hn2', hn5', e15', l16', e14', hw'⟩
          let Q : Nat × Int32 × ow_MS → Prop := fun r => r.1 = 1 ∧ (noB (y1.2.1 15) (nI b) ∨ noB (y1.2.1 15) (nI b')) ∨ ∃ c n l w c' n' l' w', brW y1 (nI b) c n l w ∧ brW y1 (nI b') c' n' l' w' ∧ (n ≠ n' ∧ r.1 = 2 ∨ n = n' ∧ n = 5 ∧ r.1 = 4 ∨ n = n' ∧ n ≤ 4 ∧ r.1 = 0 ∧ cjW9 n l w l' w' r.2.1)
          have fin : ∀ {r : Nat × Int32 × ow_MS}, (n ≠ n' ∧ r.1 = 2 ∨ n = n' ∧ n = 5 ∧ r.1 = 4 ∨ n = n' ∧ n ≤ 4 ∧ r.1 = 0 ∧ cjW9 n l w l' w' r.2.1) → Q r := fun hr => Or.inr ⟨b, n, l, w, b', n', l', w', hW, hW', hr⟩
          refine w_crI ch_15 rfl hb20 e15 (w_crI ch_15 rfl hb20' e15' (w_eqN (by omega) (by omega) (fun en => ?_) (fun en => w_some (fin (Or.inl ⟨en, rfl⟩)))))
          refine w_tc0 (xc_needFew hb20 hn5 e15) ?_ ?_
          · rintro y3 ⟨e3, h3⟩
            dsimp only at e3 h3
            rw [e3]
            rcases h3 with ⟨-, n4⟩ | h3
            · rw [← en] at e15' hw'
              have h0 : okT n (foT n w l).1 := fo_ok hn2 hn5 l (fun j hj => (hw j hj).1)
              have h0' : okT n (foT n w' l').1 := fo_ok hn2 hn5 l' (fun j hj => (hw' j hj).1)
              refine w_cs0 (xc_writeF fo46 hn2 hn5 hb20 e15 l16 e14 hw) ?_
              rintro y4 ⟨F, j, k1, k3, k4, k5, k2⟩
              obtain ⟨p1, p2, p3⟩ := wr_fo ⟨n, hn2, hn5⟩ l16 h0 k1 k3 k5
              refine w_cs1 (xc_findS so48 fo46 (by omega) n4 p1 p2 p3) ?_
              rintro v y5 ⟨⟨k, R, Ls, W, q1⟩, q2⟩
              dsimp only at q1 q2
              have f5 : fr smP y1 y5 := fr_tr (fr_mono (fun g hg => by unfold foP at hg; unfold smP; omega) k2) (fr_mono (fun g hg => by unfold suP at hg; unfold smP; omega) q2)
              have q13 : y5.2.1 13 = y1.2.1 13 := (f5 13 (by unfold smP; omega)).2.1
              refine w_cs0 (xc_writeF (n := n) (l := l') (w := w') fo46 hn2 hn5 hb20' ((congrFun (f5 15 (by unfold smP; omega)).2.1 b').trans e15') l16' ((congrFun (f5 14 (by unfold smP; omega)).2.1 b').trans e14') (fun i hi => ⟨(hw' i hi).1, by rw [q13]; exact (hw' i hi).2⟩)) ?_
              rintro y6 ⟨F', j', k1', k3', k4', k5', k2'⟩
              obtain ⟨p1', p2', p3'⟩ := wr_fo ⟨n, hn2, hn5⟩ l16' h0' k1' k3' k5'
              refine w_cs1 (xc_findS so50 fo46 (by omega) n4 p1' p2' p3') ?_
              rintro v' y7 ⟨⟨k', R', Ls', W', q1'⟩, q2'⟩
              dsimp only at q1' q2'
              have f7 : fr (fun g => foP 46000 g ∨ suP 50000 g) y5 y7 := fr_tr (fr_mono (fun g hg => Or.inl hg) k2') (fr_mono (fun g hg => Or.inr hg) q2')
              have np : ∀ g, 48000 ≤ g → g < 50000 → ¬ (foP 46000 g ∨ suP 50000 g) := fun g a1 a2 h9 => by
                rcases h9 with h9 | h9
                · unfold foP at h9
                  omega
                · unfold suP at h9
                  omega
              have q7 := suL_fr f7 (fun g a1 a2 => np g (by omega) (by omega)) q1.1
              have fin2 : ∀ v : Int32, cjV9 (gF ⟨n, hn2, hn5⟩ (foT n w l).2 (foT n w l).1 h0) (gF ⟨n, hn2, hn5⟩ (foT n w' l').2 (foT n w' l').1 h0') v → Tt (fun _ _ => some ((0 : Nat), v, y7)) Q := fun v hv => w_some (fin (Or.inr (Or.inr ⟨en, n4, rfl, ⟨hn2, hn5⟩, h0, h0', hv⟩)))
              rcases fn_sm q1 with ⟨ev, o1⟩ | ⟨nv, -, o1⟩
              · exact w_ifT ev (fin2 _ (Or.inl ⟨rfl, Or.inl o1⟩))
              · refine w_ifF nv ?_
                rcases fn_sm q1' with ⟨ev', o1'⟩ | ⟨nv', -, o1'⟩
                · exact w_ifT ev' (fin2 _ (Or.inl ⟨rfl, Or.inr o1'⟩))
                · have hiff := fn_eq q1 q1' nv nv'
                  have b1 := q1.2.2.2.2.2.1
                  have b2 := q1.2.2.2.2.2.2.1
                  have b3 := q1'.2.2.2.2.2.1
                  have b4 := q1'.2.2.2.2.2.2.1
                  refine w_ifF nv' (w_cs1 (xc_sameAsS so48 so50 q7 q1'.1 ((f7 _ (np _ (by omega) (by omega))).1.trans q1.2.1) q1'.2.1 (by omega) (by omega) (by omega) (by omega)) ?_)
                  rintro v8 y8 ⟨hv8, e8⟩
                  dsimp only at hv8 e8
                  rw [e8]
                  rcases hv8 with ⟨rfl, hv8⟩ | ⟨rfl, hv8⟩
                  · exact w_ifF (by decide) (fin2 _ (Or.inr ⟨⟨_, o1⟩, ⟨_, o1'⟩, Or.inl ⟨rfl, hiff.mp hv8⟩⟩))
                  · exact w_ifT rfl (fin2 _ (Or.inr ⟨⟨_, o1⟩, ⟨_, o1'⟩, Or.inr ⟨rfl, fun h9 => hv8 (hiff.mpr h9)⟩⟩))
            · exact absurd h3.1 (by decide)
          · rintro a y3 ha ⟨e3, h3⟩
            dsimp only at e3 h3
            rcases h3 with ⟨h3, -⟩ | ⟨h3, n5⟩
            · exact absurd h3 ha
            · exact w_some (fin (Or.inr (Or.inl ⟨en, n5, h3⟩)))
        · exact absurd (show (0 : Nat) = 1 from h2.1) (by decide)
      · rintro a y2 ha ⟨h2, e2⟩
        rcases h2 with h2 | h2
        · exact absurd h2.1 ha
        · exact w_some (Or.inl ⟨h2.1, Or.inr h2.2⟩)
    · exact absurd (show (0 : Nat) = 1 from h1.1) (by decide)
  · rintro a y1 ha ⟨h1, rfl⟩
    rcases h1 with h1 | h1
    · exact absurd h1.1 ha
    · exact w_some (Or.inl ⟨h1.1, Or.inl h1.2⟩)
theorem c_conjugate (hG : ∀ W, X W → XG W) (h : rel3 X z y) : Te (fun K => qe_X13_conjugate K x x' z) (fun rr => Te (fun K => ce_X11_conjugate vl K 0 x x' y) (fun rc => rel3 X rr.2 rc.2.2 ∧ ansI [(1, 1), (2, 2), (3, 4)] rr rc)) := by
  have hI := r3_g h
  have hB := h.2.2.2.2.1
  have hR := h.2.2.2.1
  refine te_two (te_fo (te_and (tp_conjugate (a := x) (b := x') hG hI) (xq_conjugate (x := x) (x' := x') hI hG)) (fun K => ff_X13_conjugate)) (te_fo (xc_conjugate (x := x) (x' := x') hB) (fun K => ff_X11_conjugate)) (fun rr rc ⟨⟨hgI, hr⟩, fR⟩ ⟨hc, fC⟩ => ⟨rel3_nf fR fC (pf_nf (by decide)) (fun g hg => by omega) hgI h, ?_⟩)
  rcases hr with ⟨r1, r2⟩ | ⟨b, n, l, u, b', n', l', u', hb, hx, hh, hu, hb', hx', hh', hu', hr⟩
  · rcases hc with ⟨c1, -⟩ | ⟨b, n, l, w, b', n', l', w', hW, hW', -⟩
    · exact Or.inr ⟨1, 1, by simp, r1, c1⟩
    · rcases r2 with r2 | r2
      · exact (no_z hR r2 hW).elim
      · exact (no_z hR r2 hW').elim
  · rcases hc with ⟨c1, c2⟩ | ⟨b1, n1, l1, w, b2, n2, l2, w', hW, hW', hc⟩
    · rcases c2 with c2 | c2
      · exact (no_y hR c2 hb hx hh).elim
      · exact (no_y hR c2 hb' hx' hh').elim
    · obtain ⟨rfl, rfl, rfl, hwz⟩ := br_same hR hb hx hh hW
      obtain ⟨rfl, rfl, rfl, hwz'⟩ := br_same hR hb' hx' hh' hW'
      rcases hr with ⟨en, r1⟩ | ⟨en, e5, r1⟩ | ⟨en, e4, r1, r2⟩
      · rcases hc with ⟨-, c1⟩ | ⟨c2, -⟩ | ⟨c2, -⟩
        · exact Or.inr ⟨2, 2, by simp, r1, c1⟩
        · exact absurd c2 en
        · exact absurd c2 en
      · rcases hc with ⟨c2, -⟩ | ⟨-, -, c1⟩ | ⟨-, c2, -⟩
        · exact absurd en c2
        · exact Or.inr ⟨3, 4, by simp, r1, c1⟩
        · omega
      · rcases hc with ⟨c2, -⟩ | ⟨-, c2, -⟩ | ⟨-, -, c1, c3⟩
        · exact absurd en c2
        · omega
        · subst en
          exact Or.inl ⟨r1, c1, cjW9_uni (lw_same hh.2.1 hu hwz) (lw_same hh'.2.1 hu' hwz') r2 c3⟩
end XSEA
end
section
/-! 99zzzzzzzzzzzzzzzza.xsta -/
/-! summit, conjugate are steps of the law; what is left of the whole: six cases -/
section XSF
variable {Pc Pr : ow_MS → Prop}
theorem s3_summit (hc : keepP ciX Pc) (hr : keepP rfX Pr) : stpX Pc Pr lst_summit := by
  intro S x1 x2 x3 x4 x5 h pc pr
  have hc0 := rel_of (vl := S.1) (y := S.2.1) (z := S.2.2) (em := [(1, 1), (2, 4)]) (fc := fun K => ce_X11_summit S.1 K 0 x1 S.2.1) (fm := fun K => qe_X13_summit K x1 S.2.2) h.1 (c_summit (fun _ => XR_G) h.1.1) (fun K => ff_X13_summit) (fun K => ff_X11_summit) (by decide) (fun g hg h9 => by unfold ciH at h9; omega)
  have hn : Te (fun K => ce_X11_summit S.1 K 0 x1 S.2.1) (fun rc => NM rc.2.2) := te_nmF (te_in hc0) (fun K => ff_X11_summit) (fun g hg h9 => by omega) h.2
  have hs0 : Te (lsV S.1 (fun K => ce_X11_summit S.1 K 0 x1 S.2.1) (fun k z => if k = 1 then some (1, z) else if k = 4 then some (2, z) else none) (fun K => qe_X13_summit K x1 S.2.2)) (fun S1 => REL S1 ∧ dPhi S.1 ≤ dPhi S1.1) := by
    refine st_int hc0 (fun j k hm => ?_)
    simp only [List.mem_cons, List.not_mem_nil, or_false, Prod.mk.injEq] at hm
    rcases hm with ⟨rfl, rfl⟩ | ⟨rfl, rfl⟩
    · exact ⟨by decide, by decide, by decide, fun _ => rfl⟩
    · exact ⟨by decide, by decide, by decide, fun _ => rfl⟩
  have hmp : ∀ (k : Nat) (z : ow_MS) (r : Int32 × ow_MS), ((fun k z => if k = 1 then some (1, z) else if k = 4 then some (2, z) else none) : Nat → ow_MS → Option (Int32 × ow_MS)) k z = some r → r.2 = z := (fun k z r hr => by
    have hr : (if k = 1 then some (1, z) else if k = 4 then some (2, z) else none) = some r := hr
    by_cases c0 : k = 1
    · rw [if_pos c0] at hr
      cases hr
      rfl
    by_cases c1 : k = 4
    · rw [if_neg c0, if_pos c1] at hr
      cases hr
      rfl
    rw [if_neg c0, if_neg c1] at hr
    cases hr)
  have hs : Te (lsV S.1 (fun K => ce_X11_summit S.1 K 0 x1 S.2.1) (fun k z => if k = 1 then some (1, z) else if k = 4 then some (2, z) else none) (fun K => qe_X13_summit K x1 S.2.2)) (fun S1 => REL2 S1 ∧ dPhi S.1 ≤ dPhi S1.1) := w_monoE (lsV_nm hs0 hn hmp) (fun S1 ⟨⟨q1, q2⟩, q3⟩ => ⟨⟨q1, q3⟩, q2⟩)
  exact w_monoE (lsV_fo hs (fun K => ff_X11_summit) (fun K => ff_X13_summit) hmp) (fun S1 ⟨q, f1, f2⟩ => ⟨q, hc _ _ _ f1 (fun g hg h9 => by unfold ciX at h9; omega) pc, hr _ _ _ f2 (pf_rf (by decide)) pr⟩)
theorem s3_conjugate (hc : keepP ciX Pc) (hr : keepP rfX Pr) : stpX Pc Pr lst_conjugate := by
  intro S x1 x2 x3 x4 x5 h pc pr
  have hc0 := rel_of (vl := S.1) (y := S.2.1) (z := S.2.2) (em := [(1, 1), (2, 2), (3, 4)]) (fc := fun K => ce_X11_conjugate S.1 K 0 x1 x2 S.2.1) (fm := fun K => qe_X13_conjugate K x1 x2 S.2.2) h.1 (c_conjugate (fun _ => XR_G) h.1.1) (fun K => ff_X13_conjugate) (fun K => ff_X11_conjugate) (by decide) (fun g hg h9 => by unfold ciH at h9; omega)
  have hn : Te (fun K => ce_X11_conjugate S.1 K 0 x1 x2 S.2.1) (fun rc => NM rc.2.2) := te_nmF (te_in hc0) (fun K => ff_X11_conjugate) (fun g hg h9 => by omega) h.2
  have hs0 : Te (lsV S.1 (fun K => ce_X11_conjugate S.1 K 0 x1 x2 S.2.1) (fun k z => if k = 1 then some (1, z) else if k = 2 then some (2, z) else if k = 4 then some (3, z) else none) (fun K => qe_X13_conjugate K x1 x2 S.2.2)) (fun S1 => REL S1 ∧ dPhi S.1 ≤ dPhi S1.1) := by
    refine st_int hc0 (fun j k hm => ?_)
    simp only [List.mem_cons, List.not_mem_nil, or_false, Prod.mk.injEq] at hm
    rcases hm with ⟨rfl, rfl⟩ | ⟨rfl, rfl⟩ | ⟨rfl, rfl⟩
    · exact ⟨by decide, by decide, by decide, fun _ => rfl⟩
    · exact ⟨by decide, by decide, by decide, fun _ => rfl⟩
    · exact ⟨by decide, by decide, by decide, fun _ => rfl⟩
  have hmp : ∀ (k : Nat) (z : ow_MS) (r : Int32 × ow_MS), ((fun k z => if k = 1 then some (1, z) else if k = 2 then some (2, z) else if k = 4 then some (3, z) else none) : Nat → ow_MS → Option (Int32 × ow_MS)) k z = some r → r.2 = z := (fun k z r hr => by
    have hr : (if k = 1 then some (1, z) else if k = 2 then some (2, z) else if k = 4 then some (3, z) else none) = some r := hr
    by_cases c0 : k = 1
    · rw [if_pos c0] at hr
      cases hr
      rfl
    by_cases c1 : k = 2
    · rw [if_neg c0, if_pos c1] at hr
      cases hr
      rfl
    by_cases c2 : k = 4
    · rw [if_neg c0, if_neg c1, if_pos c2] at hr
      cases hr
      rfl
    rw [if_neg c0, if_neg c1, if_neg c2] at hr
    cases hr)
  have hs : Te (lsV S.1 (fun K => ce_X11_conjugate S.1 K 0 x1 x2 S.2.1) (fun k z => if k = 1 then some (1, z) else if k = 2 then some (2, z) else if k = 4 then some (3, z) else none) (fun K => qe_X13_conjugate K x1 x2 S.2.2)) (fun S1 => REL2 S1 ∧ dPhi S.1 ≤ dPhi S1.1) := w_monoE (lsV_nm hs0 hn hmp) (fun S1 ⟨⟨q1, q2⟩, q3⟩ => ⟨⟨q1, q3⟩, q2⟩)
  exact w_monoE (lsV_fo hs (fun K => ff_X11_conjugate) (fun K => ff_X13_conjugate) hmp) (fun S1 ⟨q, f1, f2⟩ => ⟨q, hc _ _ _ f1 (fun g hg h9 => by unfold ciX at h9; omega) pc, hr _ _ _ f2 (pf_rf (by decide)) pr⟩)
variable {Qc Qr : ow_MS → Prop}
end XSF
end
section
/-! 99zzzzzzzzzzzzzzzzb.xtw1 -/
/-! two: polynomials in x and z as tables; the skein relation; the tree along a list of first visits -/
abbrev pz9 : Type := Int → Int → Int
def sgz (b : Bool) : Int := if b then 1 else -1
/-- the value at a crossing of sign b, out of the values of the changed and of the smoothed one -/
def skz (b : Bool) (P Q : pz9) : pz9 := fun i j => P (i - 2 * sgz b) j + sgz b * Q (i - sgz b) (j - 1)
/-- k + 1 circles -/
def lfz : Nat → pz9
  | 0 => fun i j => if i = 0 ∧ j = 0 then 1 else 0
  | k + 1 => fun i j => lfz k (i + 1) (j + 1) - lfz k (i - 1) (j + 1)
/-- a circle more -/
def crz (P : pz9) : pz9 := fun i j => P (i + 1) (j + 1) - P (i - 1) (j + 1)
theorem lfz_s (k : Nat) : lfz (k + 1) = crz (lfz k) := rfl
theorem sgz_t : sgz true = 1 := rfl
theorem sgz_f : sgz false = -1 := rfl
theorem skz_bk (b : Bool) (P Q : pz9) : skz b (skz (!b) P Q) Q = P := by
  funext i j
  cases b
  · show P (i - 2 * -1 - 2 * 1) j + 1 * Q (i - 2 * -1 - 1) (j - 1) + -1 * Q (i - -1) (j - 1) = P i j
    rw [show i - 2 * -1 - 2 * 1 = i by omega, show i - 2 * -1 - 1 = i - -1 by omega]
    omega
  · show P (i - 2 * 1 - 2 * -1) j + -1 * Q (i - 2 * 1 - -1) (j - 1) + 1 * Q (i - 1) (j - 1) = P i j
    rw [show i - 2 * 1 - 2 * -1 = i by omega, show i - 2 * 1 - -1 = i - 1 by omega]
    omega
theorem skz_inj {b : Bool} {P P' Q : pz9} (h : skz b P Q = skz b P' Q) : P = P' := by
  funext i j
  have e := congrFun (congrFun h (i + 2 * sgz b)) j
  unfold skz at e
  rw [show i + 2 * sgz b - 2 * sgz b = i by omega] at e
  omega
theorem skz_cm (b c : Bool) (P A B C : pz9) : skz b (skz c P A) (skz c B C) = skz c (skz b P B) (skz b A C) := by
  funext i j
  unfold skz
  rw [show i - 2 * sgz b - 2 * sgz c = i - 2 * sgz c - 2 * sgz b by omega, show i - 2 * sgz b - sgz c = i - sgz c - 2 * sgz b by omega, show i - sgz b - 2 * sgz c = i - 2 * sgz c - sgz b by omega, show i - sgz b - sgz c = i - sgz c - sgz b by omega, Int.mul_add, Int.mul_add, Int.mul_left_comm (sgz b) (sgz c)]
  omega
/-- a loop: what is smoothed has a circle more -/
theorem skz_lp (b : Bool) (P : pz9) : skz b P (crz P) = P := by
  funext i j
  cases b
  · show P (i - 2 * -1) j + -1 * (P (i - -1 + 1) (j - 1 + 1) - P (i - -1 - 1) (j - 1 + 1)) = P i j
    rw [show j - 1 + 1 = j by omega, show i - 2 * -1 = i - -1 + 1 by omega, show i - -1 - 1 = i by omega]
    omega
  · show P (i - 2 * 1) j + 1 * (P (i - 1 + 1) (j - 1 + 1) - P (i - 1 - 1) (j - 1 + 1)) = P i j
    rw [show j - 1 + 1 = j by omega, show i - 2 * 1 = i - 1 - 1 by omega, show i - 1 + 1 = i by omega]
    omega
theorem crz_sk (b : Bool) (P Q : pz9) : crz (skz b P Q) = skz b (crz P) (crz Q) := by
  funext i j
  show P (i + 1 - 2 * sgz b) (j + 1) + sgz b * Q (i + 1 - sgz b) (j + 1 - 1) - (P (i - 1 - 2 * sgz b) (j + 1) + sgz b * Q (i - 1 - sgz b) (j + 1 - 1)) = P (i - 2 * sgz b + 1) (j + 1) - P (i - 2 * sgz b - 1) (j + 1) + sgz b * (Q (i - sgz b + 1) (j - 1 + 1) - Q (i - sgz b - 1) (j - 1 + 1))
  rw [show i + 1 - 2 * sgz b = i - 2 * sgz b + 1 by omega, show i - 1 - 2 * sgz b = i - 2 * sgz b - 1 by omega, show i + 1 - sgz b = i - sgz b + 1 by omega, show i - 1 - sgz b = i - sgz b - 1 by omega, show j + 1 - 1 = j - 1 + 1 by omega, Int.mul_sub]
  omega
/-- a change of one crossing -/
def flz (ov : Nat → Bool) (x : Nat) : Nat → Bool := fun y => if y = x then !ov y else ov y
theorem flz_at (ov : Nat → Bool) (x : Nat) : flz ov x x = !ov x := if_pos rfl
theorem flz_ot {ov : Nat → Bool} {x y : Nat} (h : y ≠ x) : flz ov x y = ov y := if_neg h
theorem flz_2 (ov : Nat → Bool) (x : Nat) : flz (flz ov x) x = ov := by
  funext y
  by_cases h : y = x
  · rw [h, flz_at, flz_at, Bool.not_not]
  · rw [flz_ot h, flz_ot h]
theorem flz_cm (ov : Nat → Bool) (x y : Nat) : flz (flz ov x) y = flz (flz ov y) x := by
  funext t
  by_cases h : x = y
  · rw [h]
  · by_cases h1 : t = x
    · rw [h1, flz_at, flz_ot h, flz_at, flz_ot h]
    · by_cases h2 : t = y
      · rw [h2, flz_at, flz_ot (Ne.symm h), flz_ot (Ne.symm h), flz_at]
      · rw [flz_ot h2, flz_ot h1, flz_ot h1, flz_ot h2]
/-- along the first visits: each one that comes under is smoothed, then changed -/
def goz (P : pz9) (G : Nat → (Nat → Bool) → pz9) : List (Nat × Bool) → (Nat → Bool) → pz9
  | [], _ => P
  | p :: r, ov => if p.2 = ov p.1 then goz P G r ov else skz (ov p.1) (goz P G r (flz ov p.1)) (G p.1 ov)
section XTW1
variable {P : pz9} {G : Nat → (Nat → Bool) → pz9}
theorem goz_g {p : Nat × Bool} {r : List (Nat × Bool)} {ov : Nat → Bool} (h : p.2 = ov p.1) : goz P G (p :: r) ov = goz P G r ov := if_pos h
theorem goz_b {p : Nat × Bool} {r : List (Nat × Bool)} {ov : Nat → Bool} (h : ¬ p.2 = ov p.1) : goz P G (p :: r) ov = skz (ov p.1) (goz P G r (flz ov p.1)) (G p.1 ov) := if_neg h
theorem goz_all : ∀ {l : List (Nat × Bool)} {ov : Nat → Bool}, (∀ p, p ∈ l → p.2 = ov p.1) → goz P G l ov = P
  | [], _, _ => rfl
  | p :: r, ov, h => by
    rw [goz_g (h p List.mem_cons_self)]
    exact goz_all (fun q hq => h q (List.mem_cons_of_mem _ hq))
/-- what the smoothed ones must be -/
def okz (S : List Nat) (G : Nat → (Nat → Bool) → pz9) : Prop := (∀ x ov, x ∈ S → G x (flz ov x) = G x ov) ∧ ∃ H : Nat → Nat → (Nat → Bool) → pz9, (∀ x y ov, H x y ov = H y x ov) ∧ ∀ x y ov, x ∈ S → y ∈ S → x ≠ y → G x ov = skz (ov y) (G x (flz ov y)) (H x y ov)
/-- THE SKEIN RELATION AT EVERY CROSSING -/
theorem goz_sk {S : List Nat} (hG : okz S G) : ∀ (l : List (Nat × Bool)) (ov : Nat → Bool) (y : Nat), (l.map Prod.fst).Nodup → (∀ p, p ∈ l → p.1 ∈ S) → y ∈ l.map Prod.fst → goz P G l ov = skz (ov y) (goz P G l (flz ov y)) (G y ov)
  | [], _, _, _, _, h => absurd h List.not_mem_nil
  | p :: r, ov, y, hn, hS, hy => by
    obtain ⟨g1', H, g2, g3⟩ := id hG
    rw [List.map_cons, List.nodup_cons] at hn
    have hpS := hS p List.mem_cons_self
    by_cases e : p.1 = y
    · subst e
      by_cases c : p.2 = ov p.1
      · have c' : ¬ p.2 = flz ov p.1 p.1 := by
          rw [flz_at, c]
          cases ov p.1 <;> decide
        rw [goz_g c, goz_b c', flz_2, flz_at, g1' _ _ hpS, skz_bk]
      · have c' : p.2 = flz ov p.1 p.1 := by
          rw [flz_at]
          revert c
          cases p.2 <;> cases ov p.1 <;> decide
        rw [goz_b c, goz_g c']
    · have hyr : y ∈ r.map Prod.fst := by
        rw [List.map_cons] at hy
        rcases List.mem_cons.mp hy with h | h
        · exact absurd h.symm e
        · exact h
      obtain ⟨q, hq, rfl⟩ := List.mem_map.mp hyr
      have hyS := hS q (List.mem_cons_of_mem _ hq)
      have ih := fun ov => goz_sk hG r ov q.1 hn.2 (fun p hp => hS p (List.mem_cons_of_mem _ hp)) hyr
      have ep : flz ov q.1 p.1 = ov p.1 := flz_ot e
      by_cases c : p.2 = ov p.1
      · rw [goz_g c, goz_g (c.trans ep.symm)]
        exact ih ov
      · rw [goz_b c, goz_b (by rw [ep]; exact c), ih (flz ov p.1), flz_ot (Ne.symm e), ep, g3 p.1 q.1 ov hpS hyS e, skz_cm, flz_cm, g2, ← g3 q.1 p.1 ov hyS hpS (Ne.symm e)]
/-- two of them that agree once agree everywhere -/
def skA (S : List Nat) (G : Nat → (Nat → Bool) → pz9) (V : (Nat → Bool) → pz9) : Prop := ∀ ov y, y ∈ S → V ov = skz (ov y) (V (flz ov y)) (G y ov)
theorem skA_eq {V V' : (Nat → Bool) → pz9} : ∀ (S : List Nat), skA S G V → skA S G V' → ∀ ov ov0 : Nat → Bool, (∀ x, x ∉ S → ov x = ov0 x) → V ov0 = V' ov0 → V ov = V' ov
  | [], _, _, ov, ov0, h, e => by
    have : ov = ov0 := funext (fun x => h x List.not_mem_nil)
    rw [this]
    exact e
  | y :: S, h1, h2, ov, ov0, h, e => by
    have s1 : skA S G V := fun ov x hx => h1 ov x (List.mem_cons_of_mem _ hx)
    have s2 : skA S G V' := fun ov x hx => h2 ov x (List.mem_cons_of_mem _ hx)
    by_cases c : ov y = ov0 y
    · refine skA_eq S s1 s2 ov ov0 (fun x hx => ?_) e
      by_cases ex : x = y
      · rw [ex]
        exact c
      · exact h x (fun h9 => (List.mem_cons.mp h9).elim ex hx)
    · refine skA_eq S s1 s2 ov (flz ov0 y) (fun x hx => ?_) ?_
      · by_cases ex : x = y
        · rw [ex, flz_at]
          revert c
          cases ov y <;> cases ov0 y <;> decide
        · rw [flz_ot ex]
          exact h x (fun h9 => (List.mem_cons.mp h9).elim ex hx)
      · have k1 := h1 ov0 y List.mem_cons_self
        have k2 := h2 ov0 y List.mem_cons_self
        rw [e, k2] at k1
        exact (skz_inj k1).symm
end XTW1
end
section
/-! 99zzzzzzzzzzzzzzzzc.xtw2 -/
/-! two: closed braids as cycles of visits and marks; what a letter less does -/
abbrev tk9 : Type := Nat × Nat
/-- letters (place, name), the last one first; (x, 1) is the visit of x that comes from the left, (x, 0) from the right, (t, 2) the mark of track t where the braid is closed -/
abbrev wd9 : Type := List (Nat × Nat)
def thz (g x : Nat) (p : tk9) : tk9 := if p = (g, 2) then (x, 1) else if p = (g + 1, 2) then (x, 0) else p
def sgm : wd9 → tk9 → tk9
  | [], p => p
  | l :: W, p => if p = (l.2, 1) then (l.1 + 1, 2) else if p = (l.2, 0) then (l.1, 2) else thz l.1 l.2 (sgm W p)
def nmz (W : wd9) : List Nat := W.map Prod.snd
def tkz (n : Nat) (W : wd9) (p : tk9) : Prop := p.2 = 2 ∧ p.1 < n ∨ p.2 < 2 ∧ p.1 ∈ nmz W
def okw (n : Nat) (W : wd9) : Prop := (∀ l, l ∈ W → l.1 + 1 < n) ∧ (nmz W).Nodup
def pth (s : tk9 → tk9) : tk9 → List tk9 → tk9 → Prop
  | p, [], q => s p = q
  | p, a :: r, q => s p = a ∧ pth s a r q
def cyz (s : tk9 → tk9) (c : List tk9) : Prop := ∃ p r, c = p :: r ∧ pth s p r p
/-- an order of the closed braid: its components, each from some base -/
def orz (n : Nat) (W : wd9) (L : List (List tk9)) : Prop := (∀ c, c ∈ L → cyz (sgm W) c) ∧ L.flatten.Nodup ∧ ∀ p, p ∈ L.flatten ↔ tkz n W p
theorem pth_a {s : tk9 → tk9} : ∀ {r : List tk9} {p a q : tk9} {r' : List tk9}, pth s p (r ++ a :: r') q ↔ pth s p r a ∧ pth s a r' q
  | [], _, _, _, _ => Iff.rfl
  | b :: r, p, a, q, r' => by
    show s p = b ∧ pth s b (r ++ a :: r') q ↔ (s p = b ∧ pth s b r a) ∧ pth s a r' q
    rw [pth_a, and_assoc]
theorem cyz_r {s : tk9 → tk9} {a b : List tk9} (h : cyz s (a ++ b)) : cyz s (b ++ a) := by
  cases a with
  | nil =>
    rw [List.nil_append] at h
    rw [List.append_nil]
    exact h
  | cons p r =>
    cases b with
    | nil =>
      rw [List.append_nil] at h
      exact h
    | cons q t =>
      obtain ⟨p', r', e, hp⟩ := h
      obtain ⟨rfl, rfl⟩ := List.cons.inj e
      obtain ⟨h1, h2⟩ := pth_a.mp hp
      exact ⟨q, t ++ p :: r, rfl, pth_a.mpr ⟨h2, h1⟩⟩
section XTW2
variable {n : Nat} {W A B : wd9}
theorem thz_v {g x : Nat} {p : tk9} (h : p.2 ≠ 2) : thz g x p = p := by
  have h1 : p ≠ (g, 2) := fun h9 => h (by rw [h9])
  have h2 : p ≠ (g + 1, 2) := fun h9 => h (by rw [h9])
  unfold thz
  rw [if_neg h1, if_neg h2]
theorem thz_1 (g x : Nat) : thz g x (g, 2) = (x, 1) := if_pos rfl
theorem thz_0 (g x : Nat) : thz g x (g + 1, 2) = (x, 0) := by
  unfold thz
  rw [if_neg (fun h9 => by have := (Prod.mk.inj h9).1; omega), if_pos rfl]
theorem thz_o {g x : Nat} {p : tk9} (h1 : p ≠ (g, 2)) (h2 : p ≠ (g + 1, 2)) : thz g x p = p := by
  unfold thz
  rw [if_neg h1, if_neg h2]
theorem sgm_1 {l : Nat × Nat} : sgm (l :: W) (l.2, 1) = (l.1 + 1, 2) := if_pos rfl
theorem sgm_0 {l : Nat × Nat} : sgm (l :: W) (l.2, 0) = (l.1, 2) := by
  show (if ((l.2, 0) : tk9) = (l.2, 1) then _ else _) = _
  rw [if_neg (fun h9 => by have := (Prod.mk.inj h9).2; omega), if_pos rfl]
theorem sgm_o {l : Nat × Nat} {p : tk9} (h1 : p ≠ (l.2, 1)) (h0 : p ≠ (l.2, 0)) : sgm (l :: W) p = thz l.1 l.2 (sgm W p) := by
  show (if p = (l.2, 1) then _ else _) = _
  rw [if_neg h1, if_neg h0]
/-- visits of another letter -/
def nov (x : Nat) (p : tk9) : Prop := p ≠ (x, 1) ∧ p ≠ (x, 0)
theorem nov_m {x t : Nat} : nov x (t, 2) := ⟨fun h9 => by have := (Prod.mk.inj h9).2; omega, fun h9 => by have := (Prod.mk.inj h9).2; omega⟩
theorem nov_n {x y i : Nat} (h : y ≠ x) : nov x (y, i) := ⟨fun h9 => h (Prod.mk.inj h9).1, fun h9 => h (Prod.mk.inj h9).1⟩
theorem nov_t {g y x : Nat} {p : tk9} (h : y ≠ x) (hp : nov x p) : nov x (thz g y p) := by
  by_cases h1 : p = (g, 2)
  · rw [h1, thz_1]
    exact nov_n h
  · by_cases h2 : p = (g + 1, 2)
    · rw [h2, thz_0]
      exact nov_n h
    · rw [thz_o h1 h2]
      exact hp
/-- a letter that isn't there is never met -/
theorem sgm_n {x : Nat} : ∀ {W : wd9} {p : tk9}, x ∉ nmz W → nov x p → nov x (sgm W p)
  | [], _, _, h => h
  | l :: W, p, hx, hp => by
    have hl : l.2 ≠ x := fun h9 => hx (by rw [← h9]; exact List.mem_cons_self)
    have hW : x ∉ nmz W := fun h9 => hx (List.mem_cons_of_mem _ h9)
    by_cases h1 : p = (l.2, 1)
    · rw [h1, sgm_1]
      exact nov_m
    · by_cases h0 : p = (l.2, 0)
      · rw [h0, sgm_0]
        exact nov_m
      · rw [sgm_o h1 h0]
        exact nov_t hl (sgm_n hW hp)
/-- from a letter one doesn't come to it at once: the mark lies between -/
theorem sgm_x {g x i : Nat} (hi : i < 2) : ∀ {B : wd9}, x ∉ nmz B → nov x (sgm (B ++ (g, x) :: A) (x, i))
  | [], _ => by
    rcases (show i = 0 ∨ i = 1 by omega) with rfl | rfl
    · show nov x (sgm ((g, x) :: A) ((g, x).2, 0))
      rw [sgm_0]
      exact nov_m
    · show nov x (sgm ((g, x) :: A) ((g, x).2, 1))
      rw [sgm_1]
      exact nov_m
  | l :: B, hx => by
    have hl : l.2 ≠ x := fun h9 => hx (by rw [← h9]; exact List.mem_cons_self)
    have hB : x ∉ nmz B := fun h9 => hx (List.mem_cons_of_mem _ h9)
    show nov x (sgm (l :: (B ++ (g, x) :: A)) (x, i))
    rw [sgm_o (fun h9 => hl (Prod.mk.inj h9).1.symm) (fun h9 => hl (Prod.mk.inj h9).1.symm)]
    exact nov_t hl (sgm_x hi hB)
/-- the letter x taken away: who came to one of its visits goes on behind the other -/
def exz (s : tk9 → tk9) (x : Nat) (p : tk9) : tk9 := if p = (x, 1) then s (x, 0) else if p = (x, 0) then s (x, 1) else p
theorem exz_o {s : tk9 → tk9} {x : Nat} {p : tk9} (h : nov x p) : exz s x p = p := by
  unfold exz
  rw [if_neg h.1, if_neg h.2]
theorem exz_i {s : tk9 → tk9} {x i : Nat} (hi : i < 2) : exz s x (x, i) = s (x, 1 - i) := by
  unfold exz
  rcases (show i = 0 ∨ i = 1 by omega) with rfl | rfl
  · rw [if_neg (fun h9 => by have := (Prod.mk.inj h9).2; omega), if_pos rfl]
  · rw [if_pos rfl]
theorem sgm_d {g x : Nat} (hA : x ∉ nmz A) : ∀ {B : wd9} {p : tk9}, x ∉ nmz B → nov x p → sgm (B ++ A) p = exz (sgm (B ++ (g, x) :: A)) x (sgm (B ++ (g, x) :: A) p)
  | [], p, _, hp => by
    have e : sgm ((g, x) :: A) p = thz g x (sgm A p) := sgm_o hp.1 hp.2
    show sgm A p = exz (sgm ((g, x) :: A)) x (sgm ((g, x) :: A) p)
    rw [e]
    have hn := sgm_n hA hp
    by_cases h1 : sgm A p = (g, 2)
    · rw [h1, thz_1, exz_i (by omega)]
      show (g, 2) = sgm ((g, x) :: A) ((g, x).2, 0)
      rw [sgm_0]
    · by_cases h2 : sgm A p = (g + 1, 2)
      · rw [h2, thz_0, exz_i (by omega)]
        show (g + 1, 2) = sgm ((g, x) :: A) ((g, x).2, 1)
        rw [sgm_1]
      · rw [thz_o h1 h2, exz_o hn]
  | l :: B, p, hx, hp => by
    have hl : l.2 ≠ x := fun h9 => hx (by rw [← h9]; exact List.mem_cons_self)
    have hB : x ∉ nmz B := fun h9 => hx (List.mem_cons_of_mem _ h9)
    show sgm (l :: (B ++ A)) p = exz (sgm (l :: (B ++ (g, x) :: A))) x (sgm (l :: (B ++ (g, x) :: A)) p)
    by_cases h1 : p = (l.2, 1)
    · rw [h1, sgm_1, sgm_1, exz_o nov_m]
    · by_cases h0 : p = (l.2, 0)
      · rw [h0, sgm_0, sgm_0, exz_o nov_m]
      · rw [sgm_o h1 h0, sgm_o h1 h0, sgm_d hA hB hp]
        generalize sgm (B ++ (g, x) :: A) p = q
        have ex : ∀ i, sgm (l :: (B ++ (g, x) :: A)) (x, i) = thz l.1 l.2 (sgm (B ++ (g, x) :: A) (x, i)) := fun i => sgm_o (fun h9 => hl (Prod.mk.inj h9).1.symm) (fun h9 => hl (Prod.mk.inj h9).1.symm)
        by_cases q1 : q = (x, 1)
        · rw [q1, exz_i (by omega), thz_v (p := (x, 1)) (show (1 : Nat) ≠ 2 by decide), exz_i (by omega), ex]
        · by_cases q0 : q = (x, 0)
          · rw [q0, exz_i (by omega), thz_v (p := (x, 0)) (show (0 : Nat) ≠ 2 by decide), exz_i (by omega), ex]
          · rw [exz_o ⟨q1, q0⟩, exz_o (nov_t hl ⟨q1, q0⟩)]
end XTW2
end
section
/-! 99zzzzzzzzzzzzzzzzd.xtw3 -/
/-! two: orders of a closed braid: turned, permuted, smoothed -/
section XTW3
variable {n : Nat} {W A B : wd9} {L L' P Q M : List (List tk9)}
theorem orz_of (h : orz n W L) (hc : ∀ c, c ∈ L' → cyz (sgm W) c) (hp : L'.flatten.Perm L.flatten) : orz n W L' := ⟨hc, hp.nodup_iff.mpr h.2.1, fun p => hp.mem_iff.trans (h.2.2 p)⟩
theorem orz_t {a b : List tk9} (h : orz n W (P ++ (a ++ b) :: Q)) : orz n W (P ++ (b ++ a) :: Q) := by
  refine orz_of h (fun c hc => ?_) ?_
  · rcases List.mem_append.mp hc with h1 | h1
    · exact h.1 c (List.mem_append_left _ h1)
    · rcases List.mem_cons.mp h1 with h3 | h3
      · rw [h3]
        exact cyz_r (h.1 _ (List.mem_append_right _ List.mem_cons_self))
      · exact h.1 c (List.mem_append_right _ (List.mem_cons_of_mem _ h3))
  · refine List.perm_iff_count.mpr (fun t => ?_)
    simp only [List.flatten_append, List.flatten_cons, List.count_append]
    omega
theorem orz_p (hp : L'.Perm L) (h : orz n W L) : orz n W L' := orz_of h (fun c hc => h.1 c (hp.mem_iff.mp hc)) hp.flatten
theorem nm_a : nmz (B ++ A) = nmz B ++ nmz A := List.map_append
theorem okw_d {g x : Nat} (h : okw n (B ++ (g, x) :: A)) : x ∉ nmz A ∧ x ∉ nmz B ∧ okw n (B ++ A) := by
  obtain ⟨h1, h2⟩ := h
  rw [nm_a] at h2
  have e : nmz ((g, x) :: A) = x :: nmz A := rfl
  rw [e] at h2
  obtain ⟨k1, k2, k3⟩ := List.nodup_append.mp h2
  refine ⟨(List.nodup_cons.mp k2).1, fun h9 => k3 x h9 x List.mem_cons_self rfl, fun l hl => h1 l ?_, ?_⟩
  · rcases List.mem_append.mp hl with h9 | h9
    · exact List.mem_append_left _ h9
    · exact List.mem_append_right _ (List.mem_cons_of_mem _ h9)
  · rw [nm_a]
    exact List.nodup_append.mpr ⟨k1, (List.nodup_cons.mp k2).2, fun a ha b hb => k3 a ha b (List.mem_cons_of_mem _ hb)⟩
theorem tkz_d {g x : Nat} {p : tk9} (hA : x ∉ nmz A) (hB : x ∉ nmz B) : tkz n (B ++ A) p ↔ tkz n (B ++ (g, x) :: A) p ∧ nov x p := by
  have e : ∀ y, y ∈ nmz (B ++ (g, x) :: A) ↔ y = x ∨ y ∈ nmz (B ++ A) := fun y => by
    rw [nm_a, nm_a, List.mem_append, List.mem_append, show nmz ((g, x) :: A) = x :: nmz A from rfl, List.mem_cons]
    constructor
    · rintro (h | h | h)
      · exact Or.inr (Or.inl h)
      · exact Or.inl h
      · exact Or.inr (Or.inr h)
    · rintro (h | h | h)
      · exact Or.inr (Or.inl h)
      · exact Or.inl h
      · exact Or.inr (Or.inr h)
  have hx : x ∉ nmz (B ++ A) := fun h9 => by
    rw [nm_a] at h9
    exact (List.mem_append.mp h9).elim hB hA
  obtain ⟨y, i⟩ := p
  constructor
  · rintro (⟨h1, h2⟩ | ⟨h1, h2⟩)
    · have h1 : i = 2 := h1
      subst h1
      exact ⟨Or.inl ⟨rfl, h2⟩, nov_m⟩
    · exact ⟨Or.inr ⟨h1, (e y).mpr (Or.inr h2)⟩, nov_n (fun h9 => hx (by rw [← h9]; exact h2))⟩
  · rintro ⟨⟨h1, h2⟩ | ⟨h1, h2⟩, h3⟩
    · exact Or.inl ⟨h1, h2⟩
    · refine Or.inr ⟨h1, ?_⟩
      rcases (e y).mp h2 with h4 | h4
      · exfalso
        have h1 : i < 2 := h1
        rcases (show i = 0 ∨ i = 1 by omega) with rfl | rfl
        · exact h3.2 (by rw [h4])
        · exact h3.1 (by rw [h4])
      · exact h4
theorem pth_d {g x : Nat} (hA : x ∉ nmz A) (hB : x ∉ nmz B) : ∀ {r : List tk9} {p q : tk9}, pth (sgm (B ++ (g, x) :: A)) p r q → nov x p → (∀ t, t ∈ r → nov x t) → pth (sgm (B ++ A)) p r (exz (sgm (B ++ (g, x) :: A)) x q)
  | [], p, q, h, hp, _ => by
    have h : sgm (B ++ (g, x) :: A) p = q := h
    show sgm (B ++ A) p = _
    rw [sgm_d (g := g) hA hB hp, h]
  | a :: r, p, q, h, hp, hr => by
    refine ⟨?_, pth_d hA hB h.2 (hr a List.mem_cons_self) (fun t ht => hr t (List.mem_cons_of_mem _ ht))⟩
    rw [sgm_d (g := g) hA hB hp, h.1, exz_o (hr a List.mem_cons_self)]
theorem cyz_d {g x : Nat} {c : List tk9} (hA : x ∉ nmz A) (hB : x ∉ nmz B) (h : cyz (sgm (B ++ (g, x) :: A)) c) (hn : ∀ t, t ∈ c → nov x t) : cyz (sgm (B ++ A)) c := by
  obtain ⟨p, r, rfl, hp⟩ := h
  have hp0 := hn p List.mem_cons_self
  have := pth_d hA hB hp hp0 (fun t ht => hn t (List.mem_cons_of_mem _ ht))
  rw [exz_o hp0] at this
  exact ⟨p, r, rfl, this⟩
theorem orz_d {g x : Nat} (ho : okw n (B ++ (g, x) :: A)) (h : orz n (B ++ (g, x) :: A) L) (hp : L.flatten.Perm ((x, 1) :: (x, 0) :: L'.flatten)) (hc : ∀ c, c ∈ L' → cyz (sgm (B ++ A)) c) : orz n (B ++ A) L' := by
  obtain ⟨hA, hB, -⟩ := okw_d ho
  have hn := hp.nodup_iff.mp h.2.1
  rw [List.nodup_cons, List.nodup_cons] at hn
  refine ⟨hc, hn.2.2, fun p => ?_⟩
  rw [tkz_d (g := g) hA hB, ← h.2.2 p, hp.mem_iff, List.mem_cons, List.mem_cons]
  constructor
  · intro h9
    exact ⟨Or.inr (Or.inr h9), fun h8 => hn.1 (by rw [← h8]; exact List.mem_cons_of_mem _ h9), fun h8 => hn.2.1 (by rw [← h8]; exact h9)⟩
  · rintro ⟨h9 | h9 | h9, k1, k2⟩
    · exact absurd h9 k1
    · exact absurd h9 k2
    · exact h9
theorem prm_x {x i : Nat} {l : List tk9} (hi : i < 2) : ((x, i) :: (x, 1 - i) :: l).Perm ((x, 1) :: (x, 0) :: l) := by
  rcases (show i = 0 ∨ i = 1 by omega) with rfl | rfl
  · exact List.Perm.swap _ _ _
  · exact List.Perm.refl _
/-- smoothed within a component -/
theorem orz_s1 {g x i : Nat} {X Y Z : List tk9} (ho : okw n (B ++ (g, x) :: A)) (hi : i < 2) (h : orz n (B ++ (g, x) :: A) (P ++ (X ++ (x, i) :: (Y ++ (x, 1 - i) :: Z)) :: Q)) : orz n (B ++ A) (P ++ (X ++ Z) :: Y :: Q) := by
  obtain ⟨hA, hB, -⟩ := okw_d ho
  have hp : (P ++ (X ++ (x, i) :: (Y ++ (x, 1 - i) :: Z)) :: Q).flatten.Perm ((x, i) :: (x, 1 - i) :: (P ++ (X ++ Z) :: Y :: Q).flatten) := by
    refine List.perm_iff_count.mpr (fun t => ?_)
    simp only [List.flatten_append, List.flatten_cons, List.count_append, List.count_cons]
    omega
  have hn := (hp.trans (prm_x hi)).nodup_iff.mp h.2.1
  have nv : ∀ t, t ∈ (P ++ (X ++ Z) :: Y :: Q).flatten → nov x t := fun t ht => by
    rw [List.nodup_cons, List.nodup_cons] at hn
    exact ⟨fun h8 => hn.1 (by rw [← h8]; exact List.mem_cons_of_mem _ ht), fun h8 => hn.2.1 (by rw [← h8]; exact ht)⟩
  have nc : ∀ c, c ∈ P ++ (X ++ Z) :: Y :: Q → ∀ t, t ∈ c → nov x t := fun c hc t ht => nv t (List.mem_flatten.mpr ⟨c, hc, ht⟩)
  have h0 := h.1 _ (List.mem_append_right P List.mem_cons_self)
  have h1 : cyz (sgm (B ++ (g, x) :: A)) ((x, i) :: (Y ++ (x, 1 - i) :: (Z ++ X))) := by
    have := cyz_r h0
    simpa only [List.cons_append, List.append_assoc] using this
  obtain ⟨p, r, e, hq⟩ := h1
  obtain ⟨rfl, rfl⟩ := List.cons.inj e
  obtain ⟨q1, q2⟩ := pth_a.mp hq
  have mY : ∀ t, t ∈ Y → nov x t := nc Y (List.mem_append_right _ (List.mem_cons_of_mem _ List.mem_cons_self))
  have mX : ∀ t, t ∈ Z ++ X → nov x t := fun t ht => nc (X ++ Z) (List.mem_append_right _ List.mem_cons_self) t (by
    rcases List.mem_append.mp ht with h9 | h9
    · exact List.mem_append_right _ h9
    · exact List.mem_append_left _ h9)
  have part : ∀ {j : Nat} {c : List tk9}, j < 2 → pth (sgm (B ++ (g, x) :: A)) (x, j) c (x, 1 - j) → (∀ t, t ∈ c → nov x t) → cyz (sgm (B ++ A)) c := by
    intro j c hj hc hcn
    cases c with
    | nil =>
      exfalso
      have := sgm_x (A := A) (g := g) hj hB
      rw [show sgm (B ++ (g, x) :: A) (x, j) = (x, 1 - j) from hc] at this
      rcases (show j = 0 ∨ j = 1 by omega) with rfl | rfl
      · exact this.1 rfl
      · exact this.2 rfl
    | cons a c =>
      have h3 := pth_d hA hB hc.2 (hcn a List.mem_cons_self) (fun t ht => hcn t (List.mem_cons_of_mem _ ht))
      rw [exz_i (by omega), show 1 - (1 - j) = j by omega, hc.1] at h3
      exact ⟨a, c, rfl, h3⟩
  refine orz_d ho h (hp.trans (prm_x hi)) (fun c hc => ?_)
  rcases List.mem_append.mp hc with h9 | h9
  · exact cyz_d hA hB (h.1 c (List.mem_append_left _ h9)) (nc c hc)
  · rcases List.mem_cons.mp h9 with h8 | h8
    · rw [h8]
      exact cyz_r (part (j := 1 - i) (by omega) (by rw [show 1 - (1 - i) = i by omega]; exact q2) mX)
    · rcases List.mem_cons.mp h8 with h7 | h7
      · rw [h7]
        exact part hi q1 mY
      · exact cyz_d hA hB (h.1 c (List.mem_append_right _ (List.mem_cons_of_mem _ h7))) (nc c hc)
/-- smoothed between two components -/
theorem orz_s2 {g x i : Nat} {a1 a2 b1 b2 : List tk9} (ho : okw n (B ++ (g, x) :: A)) (hi : i < 2) (h : orz n (B ++ (g, x) :: A) (P ++ (a1 ++ (x, i) :: a2) :: (M ++ (b1 ++ (x, 1 - i) :: b2) :: Q))) : orz n (B ++ A) (P ++ (a1 ++ (b2 ++ (b1 ++ a2))) :: (M ++ Q)) := by
  obtain ⟨hA, hB, -⟩ := okw_d ho
  have hp : (P ++ (a1 ++ (x, i) :: a2) :: (M ++ (b1 ++ (x, 1 - i) :: b2) :: Q)).flatten.Perm ((x, i) :: (x, 1 - i) :: (P ++ (a1 ++ (b2 ++ (b1 ++ a2))) :: (M ++ Q)).flatten) := by
    refine List.perm_iff_count.mpr (fun t => ?_)
    simp only [List.flatten_append, List.flatten_cons, List.count_append, List.count_cons]
    omega
  have hn := (hp.trans (prm_x hi)).nodup_iff.mp h.2.1
  have nv : ∀ t, t ∈ (P ++ (a1 ++ (b2 ++ (b1 ++ a2))) :: (M ++ Q)).flatten → nov x t := fun t ht => by
    rw [List.nodup_cons, List.nodup_cons] at hn
    exact ⟨fun h8 => hn.1 (by rw [← h8]; exact List.mem_cons_of_mem _ ht), fun h8 => hn.2.1 (by rw [← h8]; exact ht)⟩
  have nc : ∀ c, c ∈ P ++ (a1 ++ (b2 ++ (b1 ++ a2))) :: (M ++ Q) → ∀ t, t ∈ c → nov x t := fun c hc t ht => nv t (List.mem_flatten.mpr ⟨c, hc, ht⟩)
  have nm : ∀ t, t ∈ a1 ++ (b2 ++ (b1 ++ a2)) → nov x t := nc _ (List.mem_append_right _ List.mem_cons_self)
  have h1 : cyz (sgm (B ++ (g, x) :: A)) ((x, i) :: (a2 ++ a1)) := cyz_r (h.1 _ (List.mem_append_right P List.mem_cons_self))
  have h2 : cyz (sgm (B ++ (g, x) :: A)) ((x, 1 - i) :: (b2 ++ b1)) := cyz_r (h.1 _ (List.mem_append_right P (List.mem_cons_of_mem _ (List.mem_append_right M List.mem_cons_self))))
  have m1 : ∀ t, t ∈ a2 ++ a1 → nov x t := fun t ht => nm t (by
    simp only [List.mem_append] at ht ⊢
    rcases ht with h9 | h9
    · exact Or.inr (Or.inr (Or.inr h9))
    · exact Or.inl h9)
  have m2 : ∀ t, t ∈ b2 ++ b1 → nov x t := fun t ht => nm t (by
    simp only [List.mem_append] at ht ⊢
    rcases ht with h9 | h9
    · exact Or.inr (Or.inl h9)
    · exact Or.inr (Or.inr (Or.inl h9)))
  generalize ea : a2 ++ a1 = a at h1 m1
  generalize eb : b2 ++ b1 = b at h2 m2
  obtain ⟨p, r, e, q1⟩ := h1
  obtain ⟨rfl, rfl⟩ := List.cons.inj e
  obtain ⟨p, r, e, q2⟩ := h2
  obtain ⟨rfl, rfl⟩ := List.cons.inj e
  have ne : ∀ {j : Nat} {c : List tk9}, j < 2 → pth (sgm (B ++ (g, x) :: A)) (x, j) c (x, j) → ∃ t c', c = t :: c' := by
    intro j c hj hc
    cases c with
    | nil =>
      exfalso
      have := sgm_x (A := A) (g := g) hj hB
      rw [show sgm (B ++ (g, x) :: A) (x, j) = (x, j) from hc] at this
      rcases (show j = 0 ∨ j = 1 by omega) with rfl | rfl
      · exact this.2 rfl
      · exact this.1 rfl
    | cons t c => exact ⟨t, c, rfl⟩
  obtain ⟨t1, c1, rfl⟩ := ne hi q1
  obtain ⟨t2, c2, rfl⟩ := ne (by omega) q2
  have k1 := pth_d hA hB q1.2 (m1 t1 List.mem_cons_self) (fun t ht => m1 t (List.mem_cons_of_mem _ ht))
  have k2 := pth_d hA hB q2.2 (m2 t2 List.mem_cons_self) (fun t ht => m2 t (List.mem_cons_of_mem _ ht))
  rw [exz_i hi, q2.1] at k1
  rw [exz_i (by omega), show 1 - (1 - i) = i by omega, q1.1] at k2
  have hnew : cyz (sgm (B ++ A)) ((a2 ++ a1) ++ (b2 ++ b1)) := by
    rw [ea, eb]
    exact ⟨t1, c1 ++ t2 :: c2, rfl, pth_a.mpr ⟨k1, k2⟩⟩
  refine orz_d ho h (hp.trans (prm_x hi)) (fun c hc => ?_)
  rcases List.mem_append.mp hc with h9 | h9
  · exact cyz_d hA hB (h.1 c (List.mem_append_left _ h9)) (nc c hc)
  · rcases List.mem_cons.mp h9 with h8 | h8
    · rw [h8]
      have := cyz_r (a := a2) (b := a1 ++ (b2 ++ b1)) (by simpa only [List.append_assoc] using hnew)
      simpa only [List.append_assoc] using this
    · refine cyz_d hA hB (h.1 c (List.mem_append_right _ (List.mem_cons_of_mem _ ?_))) (nc c hc)
      rcases List.mem_append.mp h8 with h7 | h7
      · exact List.mem_append_left _ h7
      · exact List.mem_append_right _ (List.mem_cons_of_mem _ h7)
end XTW3
end
section
/-! 99zzzzzzzzzzzzzzzze.xtw4 -/
/-! two: first visits; the value of a word -/
def fsz : List Nat → List tk9 → List (Nat × Bool)
  | _, [] => []
  | met, p :: r => if p.2 = 2 ∨ p.1 ∈ met then fsz met r else (p.1, decide (p.2 = 1)) :: fsz (p.1 :: met) r
/-- the first visit of x in l has side i -/
def fvz (l : List tk9) (x i : Nat) : Prop := ∃ a c, l = a ++ (x, i) :: c ∧ i ≠ 2 ∧ ∀ q, q ∈ a → q.2 = 2 ∨ q.1 ≠ x
theorem fsz_k {met : List Nat} {p : tk9} {r : List tk9} (h : p.2 = 2 ∨ p.1 ∈ met) : fsz met (p :: r) = fsz met r := if_pos h
theorem fsz_f {met : List Nat} {p : tk9} {r : List tk9} (h : ¬ (p.2 = 2 ∨ p.1 ∈ met)) : fsz met (p :: r) = (p.1, decide (p.2 = 1)) :: fsz (p.1 :: met) r := if_neg h
theorem fsz_n : ∀ {l : List tk9} {met : List Nat} {q : Nat × Bool}, q ∈ fsz met l → q.1 ∉ met
  | [], _, _, h => absurd h List.not_mem_nil
  | p :: r, met, q, h => by
    by_cases c : p.2 = 2 ∨ p.1 ∈ met
    · rw [fsz_k c] at h
      exact fsz_n h
    · rw [fsz_f c] at h
      rcases List.mem_cons.mp h with h1 | h1
      · rw [h1]
        exact fun h9 => c (Or.inr h9)
      · exact fun h9 => fsz_n h1 (List.mem_cons_of_mem _ h9)
theorem fsz_nd : ∀ {l : List tk9} {met : List Nat}, ((fsz met l).map Prod.fst).Nodup
  | [], _ => List.nodup_nil
  | p :: r, met => by
    by_cases c : p.2 = 2 ∨ p.1 ∈ met
    · rw [fsz_k c]
      exact fsz_nd
    · rw [fsz_f c, List.map_cons, List.nodup_cons]
      refine ⟨fun h9 => ?_, fsz_nd⟩
      obtain ⟨q, h1, h2⟩ := List.mem_map.mp h9
      have h3 := fsz_n h1
      rw [h2] at h3
      exact h3 List.mem_cons_self
theorem fsz_m : ∀ {l : List tk9} {met : List Nat} {x : Nat} {b : Bool}, (x, b) ∈ fsz met l ↔ x ∉ met ∧ ∃ i, fvz l x i ∧ b = decide (i = 1)
  | [], met, x, b => by
    constructor
    · intro h
      exact absurd h List.not_mem_nil
    · rintro ⟨-, i, ⟨a, c, e, -⟩, -⟩
      have := congrArg List.length e
      simp at this
  | p :: r, met, x, b => by
    by_cases c : p.2 = 2 ∨ p.1 ∈ met
    · rw [fsz_k c, fsz_m]
      constructor
      · rintro ⟨h1, i, ⟨a, d, e, h2, h3⟩, h4⟩
        refine ⟨h1, i, ⟨p :: a, d, by rw [e]; rfl, h2, fun q hq => ?_⟩, h4⟩
        rcases List.mem_cons.mp hq with h5 | h5
        · rw [h5]
          exact c.imp id (fun h6 h7 => h1 (by rw [← h7]; exact h6))
        · exact h3 q h5
      · rintro ⟨h1, i, ⟨a, d, e, h2, h3⟩, h4⟩
        cases a with
        | nil =>
          obtain ⟨e1, -⟩ := List.cons.inj e
          exfalso
          rw [e1] at c
          exact c.elim h2 h1
        | cons p' a =>
          obtain ⟨-, e2⟩ := List.cons.inj e
          exact ⟨h1, i, ⟨a, d, e2, h2, fun q hq => h3 q (List.mem_cons_of_mem _ hq)⟩, h4⟩
    · rw [fsz_f c, List.mem_cons, fsz_m]
      have c1 : p.2 ≠ 2 := fun h9 => c (Or.inl h9)
      have c2 : p.1 ∉ met := fun h9 => c (Or.inr h9)
      constructor
      · rintro (h | ⟨h1, i, ⟨a, d, e, h2, h3⟩, h4⟩)
        · obtain ⟨h5, h6⟩ := Prod.mk.inj h
          exact ⟨by rw [h5]; exact c2, p.2, ⟨[], r, by rw [h5]; rfl, c1, fun q hq => absurd hq List.not_mem_nil⟩, h6⟩
        · refine ⟨fun h9 => h1 (List.mem_cons_of_mem _ h9), i, ⟨p :: a, d, by rw [e]; rfl, h2, fun q hq => ?_⟩, h4⟩
          rcases List.mem_cons.mp hq with h5 | h5
          · rw [h5]
            exact Or.inr (fun h7 => h1 (by rw [← h7]; exact List.mem_cons_self))
          · exact h3 q h5
      · rintro ⟨h1, i, ⟨a, d, e, h2, h3⟩, h4⟩
        cases a with
        | nil =>
          obtain ⟨e1, -⟩ := List.cons.inj e
          rw [e1]
          exact Or.inl (by rw [h4])
        | cons p' a =>
          obtain ⟨e1, e2⟩ := List.cons.inj e
          have hp' := h3 p' List.mem_cons_self
          rw [← e1] at hp'
          refine Or.inr ⟨fun h9 => ?_, i, ⟨a, d, e2, h2, fun q hq => h3 q (List.mem_cons_of_mem _ hq)⟩, h4⟩
          rcases List.mem_cons.mp h9 with h8 | h8
          · exact hp'.elim c1 (fun h7 => h7 h8.symm)
          · exact h1 h8
/-- a word without the letter x -/
def dlz (x : Nat) (W : wd9) : wd9 := W.filter (fun l => decide (l.2 ≠ x))
theorem dlz_n {x : Nat} : ∀ {W : wd9}, x ∉ nmz W → dlz x W = W
  | [], _ => rfl
  | l :: W, h => by
    have h1 : l.2 ≠ x := fun h9 => h (by rw [← h9]; exact List.mem_cons_self)
    have h2 : x ∉ nmz W := fun h9 => h (List.mem_cons_of_mem _ h9)
    unfold dlz
    rw [List.filter_cons_of_pos (by simp [h1])]
    exact congrArg (l :: ·) (dlz_n h2)
theorem dlz_e {g x : Nat} {A B : wd9} (hA : x ∉ nmz A) (hB : x ∉ nmz B) : dlz x (B ++ (g, x) :: A) = B ++ A := by
  unfold dlz
  rw [List.filter_append, List.filter_cons_of_neg (by simp)]
  have h1 := dlz_n hA
  have h2 := dlz_n hB
  unfold dlz at h1 h2
  rw [h1, h2]
theorem dlz_cm (x y : Nat) (W : wd9) : dlz x (dlz y W) = dlz y (dlz x W) := by
  unfold dlz
  rw [List.filter_filter, List.filter_filter]
  congr 1
  funext l
  exact Bool.and_comm _ _
theorem nm_ex {x : Nat} : ∀ {W : wd9}, x ∈ nmz W → ∃ A B g, W = B ++ (g, x) :: A
  | [], h => absurd h List.not_mem_nil
  | l :: W, h => by
    rcases List.mem_cons.mp h with h1 | h1
    · exact ⟨W, [], l.1, by rw [h1]; rfl⟩
    · obtain ⟨A, B, g, rfl⟩ := nm_ex h1
      exact ⟨A, l :: B, g, rfl⟩
theorem dlz_lt {x : Nat} {W : wd9} (h : x ∈ nmz W) : (dlz x W).length < W.length := by
  obtain ⟨A, B, g, rfl⟩ := nm_ex h
  unfold dlz
  rw [List.filter_append, List.filter_cons_of_neg (by simp), List.length_append, List.length_append, List.length_cons]
  have h1 := List.length_filter_le (fun l : Nat × Nat => decide (l.2 ≠ x)) A
  have h2 := List.length_filter_le (fun l : Nat × Nat => decide (l.2 ≠ x)) B
  omega
theorem nm_dl {x y : Nat} {W : wd9} : y ∈ nmz (dlz x W) ↔ y ∈ nmz W ∧ y ≠ x := by
  unfold nmz dlz
  constructor
  · intro h
    obtain ⟨l, h1, h2⟩ := List.mem_map.mp h
    obtain ⟨h3, h4⟩ := List.mem_filter.mp h1
    exact ⟨List.mem_map.mpr ⟨l, h3, h2⟩, by rw [← h2]; exact of_decide_eq_true h4⟩
  · rintro ⟨h, hy⟩
    obtain ⟨l, h1, h2⟩ := List.mem_map.mp h
    exact List.mem_map.mpr ⟨l, List.mem_filter.mpr ⟨h1, decide_eq_true (by rw [h2]; exact hy)⟩, h2⟩
theorem ok_dl {n x : Nat} {W : wd9} (h : okw n W) : okw n (dlz x W) := by
  by_cases c : x ∈ nmz W
  · obtain ⟨A, B, g, rfl⟩ := nm_ex c
    obtain ⟨h1, h2, h3⟩ := okw_d h
    rw [dlz_e h1 h2]
    exact h3
  · rw [dlz_n c]
    exact h
/-- the value along an order, given the values of the words with a letter less -/
def vlz (G : Nat → (Nat → Bool) → pz9) (L : List (List tk9)) (ov : Nat → Bool) : pz9 := goz (lfz (L.length - 1)) G (fsz [] L.flatten) ov
/-- some order -/
noncomputable def orc (n : Nat) (W : wd9) : List (List tk9) := Classical.epsilon (fun L => orz n W L)
theorem orc_o {n : Nat} {W : wd9} {L : List (List tk9)} (h : orz n W L) : orz n W (orc n W) := Classical.epsilon_spec (p := fun L => orz n W L) ⟨L, h⟩
noncomputable def fvl : Nat → Nat → wd9 → (Nat → Bool) → pz9
  | 0, n, W, ov => vlz (fun _ _ _ _ => 0) (orc n W) ov
  | k + 1, n, W, ov => vlz (fun x ov => fvl k n (dlz x W) ov) (orc n W) ov
/-- the value of a word -/
noncomputable def Fz (n : Nat) (W : wd9) (ov : Nat → Bool) : pz9 := fvl W.length n W ov
noncomputable def Gz (n : Nat) (W : wd9) (x : Nat) (ov : Nat → Bool) : pz9 := Fz n (dlz x W) ov
theorem goz_cg {P : pz9} {G G' : Nat → (Nat → Bool) → pz9} {S : List Nat} (hG : ∀ x, x ∈ S → ∀ o o' : Nat → Bool, (∀ y, y ∈ S → o y = o' y) → G x o = G' x o') : ∀ (l : List (Nat × Bool)) (ov ov' : Nat → Bool), (∀ p, p ∈ l → p.1 ∈ S) → (∀ y, y ∈ S → ov y = ov' y) → goz P G l ov = goz P G' l ov'
  | [], _, _, _, _ => rfl
  | p :: r, ov, ov', hS, h => by
    have hp := hS p List.mem_cons_self
    have hr : ∀ q, q ∈ r → q.1 ∈ S := fun q hq => hS q (List.mem_cons_of_mem _ hq)
    by_cases c : p.2 = ov p.1
    · rw [goz_g c, goz_g (c.trans (h _ hp))]
      exact goz_cg hG r ov ov' hr h
    · rw [goz_b c, goz_b (by rw [← h _ hp]; exact c), h _ hp, hG p.1 hp ov ov' h, goz_cg hG r (flz ov p.1) (flz ov' p.1) hr (fun y hy => ?_)]
      by_cases e : y = p.1
      · rw [e, flz_at, flz_at, h _ hp]
      · rw [flz_ot e, flz_ot e, h y hy]
section XTW4
variable {n : Nat} {W : wd9} {L : List (List tk9)}
theorem fs_nm (h : orz n W L) {p : Nat × Bool} (hp : p ∈ fsz [] L.flatten) : p.1 ∈ nmz W := by
  obtain ⟨x, b⟩ := p
  obtain ⟨-, i, ⟨a, c, e, h2, -⟩, -⟩ := fsz_m.mp hp
  have : (x, i) ∈ L.flatten := by
    rw [e]
    exact List.mem_append_right _ List.mem_cons_self
  rcases (h.2.2 _).mp this with ⟨h3, -⟩ | ⟨-, h3⟩
  · exact absurd h3 h2
  · exact h3
theorem fv_ex {x : Nat} : ∀ {l : List tk9} {i : Nat}, (x, i) ∈ l → i ≠ 2 → ∃ j, fvz l x j
  | [], _, h, _ => absurd h List.not_mem_nil
  | p :: r, i, h, hi => by
    by_cases c : p.1 = x ∧ p.2 ≠ 2
    · exact ⟨p.2, [], r, by rw [← c.1]; rfl, c.2, fun q hq => absurd hq List.not_mem_nil⟩
    · rcases List.mem_cons.mp h with h1 | h1
      · exact absurd ⟨by rw [← h1], by rw [← h1]; exact hi⟩ c
      · obtain ⟨j, a, d, e, h2, h3⟩ := fv_ex h1 hi
        refine ⟨j, p :: a, d, by rw [e]; rfl, h2, fun q hq => ?_⟩
        rcases List.mem_cons.mp hq with h4 | h4
        · rw [h4]
          by_cases c2 : p.2 = 2
          · exact Or.inl c2
          · exact Or.inr (fun h9 => c ⟨h9, c2⟩)
        · exact h3 q h4
theorem nm_fs (h : orz n W L) {x : Nat} (hx : x ∈ nmz W) : x ∈ (fsz [] L.flatten).map Prod.fst := by
  obtain ⟨j, hj⟩ := fv_ex (i := 1) ((h.2.2 (x, 1)).mpr (Or.inr ⟨by omega, hx⟩)) (by omega)
  exact List.mem_map.mpr ⟨(x, decide (j = 1)), fsz_m.mpr ⟨List.not_mem_nil, j, hj, rfl⟩, rfl⟩
theorem len_dl {x : Nat} (ho : okw n W) (hx : x ∈ nmz W) : (dlz x W).length + 1 = W.length := by
  obtain ⟨A, B, g, rfl⟩ := nm_ex hx
  obtain ⟨h1, h2, -⟩ := okw_d ho
  rw [dlz_e h1 h2, List.length_append, List.length_append, List.length_cons]
  omega
end XTW4
end
