/-! braids: forms in the group: inf, sup, the first and the last factor -/
section XG6
variable {m : N5}
theorem dv_1 {n : Nat} (h2 : 2 ≤ n) (h5 : n ≤ 5) {t x : Nat} (ht : t < gNN n) (hx : x < gNN n) : dvT n [t] [x] ↔ ddG n x t = 0 := dv_r1 h2 h5 ht (okT_c.mpr ⟨hx, okT_n⟩)
/-- what divides a simple one is simple -/
theorem dv_s {n : Nat} (h2 : 2 ≤ n) (h5 : n ≤ 5) : ∀ (T : List Nat) {x : Nat}, okT n T → x < gNN n → dvT n T [x] → ∃ t, t < gNN n ∧ eqT n T [t] ∧ ddG n x t = 0
  | [], x, _, hx, _ => ⟨0, nn_0, eqT_sy (eqT_id (X := []) (Y := []) h2 h5 okT_n okT_n), dd_0r h2 h5 hx⟩
  | t :: T, x, hT, hx, ⟨C, c1, c2⟩ => by
    obtain ⟨ht, hT'⟩ := okT_c.mp hT
    have c2 : eqT n [x] (t :: (T ++ C)) := c2
    have hC : okT n (T ++ C) := okT_a.mpr ⟨hT', c1⟩
    have k1 : ddG n x t = 0 := (hd_1 h2 h5 (okT_c.mpr ⟨ht, hC⟩) c2).1
    have hy := dd_lt h2 h5 ht hx
    have e1 := dd_mu h2 h5 ht hx k1
    have k2 : eqT n [x] [t, ddG n t x] := eqT_sy (eqT_tr (eqT_swp (X := []) (Y := []) h2 h5 okT_n okT_n ht hy nn_0 e1 (mu_r0 h2 h5)) (eqT_id (X := [x]) (Y := []) h2 h5 (okT_c.mpr ⟨hx, okT_n⟩) okT_n))
    have k3 : eqT n [ddG n t x] (T ++ C) := eqT_c1 h2 h5 ht (okT_c.mpr ⟨hy, okT_n⟩) hC (eqT_tr (eqT_sy k2) c2)
    obtain ⟨s, s1, s2, s3⟩ := dv_s h2 h5 T hT' hy ⟨C, c1, k3⟩
    have e2 := dd_mu h2 h5 s1 hy s3
    obtain ⟨w, w1⟩ : ∃ w, muG n t s = w + 1 := ⟨muG n t s - 1, by
      have := mu_sub h2 h5 ht hy s1 (by rw [e1]; omega) s3
      omega⟩
    have hw := (mu_lt h2 h5 ht w1).1
    refine ⟨w, hw, ?_, ?_⟩
    · have a1 : eqT n (t :: T) [t, s] := eqT_pr (P := [t]) h2 h5 (okT_c.mpr ⟨ht, okT_n⟩) s2
      have a2 : eqT n [t, s] [w] := eqT_tr (eqT_swp (X := []) (Y := []) h2 h5 okT_n okT_n ht s1 nn_0 w1 (mu_r0 h2 h5)) (eqT_id (X := [w]) (Y := []) h2 h5 (okT_c.mpr ⟨hw, okT_n⟩) okT_n)
      exact eqT_tr a1 a2
    · refine (dv_1 h2 h5 hw hx).mp ?_
      have a2 : eqT n [w] [t, s] := eqT_sy (eqT_tr (eqT_swp (X := []) (Y := []) h2 h5 okT_n okT_n ht s1 nn_0 w1 (mu_r0 h2 h5)) (eqT_id (X := [w]) (Y := []) h2 h5 (okT_c.mpr ⟨hw, okT_n⟩) okT_n))
      have hts : okT n [t, s] := okT_c.mpr ⟨ht, okT_c.mpr ⟨s1, okT_n⟩⟩
      refine dvT_el h2 h5 hts (okT_c.mpr ⟨hw, okT_n⟩) ?_ a2
      obtain ⟨C', d1, d2⟩ := (dv_1 h2 h5 s1 hy).mpr s3
      exact ⟨C', d1, eqT_tr k2 (eqT_pr (P := [t]) h2 h5 (okT_c.mpr ⟨ht, okT_n⟩) d2)⟩
theorem gp_smp {c : Gn m} (h : gpo c) (hD : gle c (gD m 1)) : ∃ t h, t < gNN m.1 ∧ c = gL m [t] h := by
  obtain ⟨T, hT, rfl⟩ := h
  have hR : okT m.1 (List.replicate 1 (gNN m.1 - 1)) := rp_ok
  have e1 : gD m 1 = gL m (List.replicate 1 (gNN m.1 - 1)) hR := (gL_rp 1).symm
  rw [e1] at hD
  obtain ⟨t, t1, t2, -⟩ := dv_s m.2.1 m.2.2 T hT dl_lt (gle_L.mp hD)
  exact ⟨t, okT_c.mpr ⟨t1, okT_n⟩, t1, gL_eq t2⟩
/-- the first factor -/
theorem fst_M {f : Nat} {F : List Nat} {hf : okT m.1 [f]} {hF : okT m.1 (f :: F)} (hw : wtL m.1 (f :: F)) : isM (gL m (f :: F) hF) (gD m 1) (gL m [f] hf) := by
  have hfl := (okT_c.mp hF).1
  obtain ⟨c, hc⟩ := gmeet (gL m (f :: F) hF) (gD m 1)
  have l1 : gle (gL m [f] hf) (gL m (f :: F) hF) := gle_L.mpr ⟨F, (okT_c.mp hF).2, eqT_rf _⟩
  have p1 := hc.2.2 _ l1 (gle_tD hfl)
  have pc : gpo c := gle_1.mp (hc.2.2 _ (gle_1.mpr gp_L) (gle_1.mpr (gp_D 1)))
  obtain ⟨t, h1, t1, rfl⟩ := gp_smp pc hc.2.1
  have k := (dv_r1 m.2.1 m.2.2 t1 hF).mp (gle_L.mp hc.1)
  have k2 := lw_div m.2.1 m.2.2 F hF hw t1 k
  have p2 : gle (gL m [t] h1) (gL m [f] hf) := gle_L.mpr ((dv_1 m.2.1 m.2.2 t1 hfl).mpr k2)
  rw [gle_as p1 p2]
  exact hc
theorem sz_D1 : 1 ≤ szD m := (f_fiv m.2.1 m.2.2 (a := 0) (by have := m.2.1; omega)).2.2.2.2.1
theorem dl_0 : gNN m.1 - 1 ≠ 0 := fun e => by
  have := sz_D1 (m := m)
  unfold szD at this
  rw [e, sz_0 m.2.1 m.2.2] at this
  omega
theorem nf_c {n f : Nat} {F : List Nat} (h : nfL n (f :: F)) : nfL n F := ⟨(okT_c.mp h.1).2, wtL_t h.2.1, fun g hg => h.2.2 g (List.mem_cons_of_mem _ hg)⟩
/-- no delta in front of a form -/
theorem nf_inf {F : List Nat} {hF : okT m.1 F} (h : nfL m.1 F) : ¬ gle (gD m 1) (gL m F hF) := by
  intro h9
  cases F with
  | nil =>
    have := (gle_ln h9).1
    rw [glen_D, glen_L, Int.one_mul] at this
    have h0 : szT m.1 [] = 0 := rfl
    have := sz_D1 (m := m)
    omega
  | cons f F =>
    obtain ⟨hf, hF'⟩ := okT_c.mp hF
    have k := (fst_M (hf := okT_c.mpr ⟨hf, okT_n⟩) (hF := hF) h.2.1).2.2 _ h9 (gle_rf _)
    have e := gle_as k (gle_tD hf)
    have hR : okT m.1 (List.replicate 1 (gNN m.1 - 1)) := rp_ok
    have e1 : gD m 1 = gL m (List.replicate 1 (gNN m.1 - 1)) hR := (gL_rp 1).symm
    rw [e1] at e
    have e2 : eqT m.1 [gNN m.1 - 1] [f] := gL_ex e
    have d1 := (dv_1 m.2.1 m.2.2 dl_lt hf).mp ⟨[], okT_n, eqT_sy e2⟩
    exact (h.2.2 f List.mem_cons_self).2 (dv_as m.2.1 m.2.2 hf dl_lt (d_pk m.2.1 m.2.2 hf).2.2.2.2 d1)
theorem gL_c {t : Nat} {T : List Nat} {h : okT m.1 (t :: T)} (h1 : okT m.1 [t]) (h2 : okT m.1 T) : gL m (t :: T) h = gm (gL m [t] h1) (gL m T h2) := (gL_m h1 h2).symm
theorem gle_sm {i j : Int} (h : i ≤ j) : gle (gD m i) (gD m j) := by
  unfold gle
  rw [gi_D, gD_m]
  obtain ⟨d, hd⟩ : ∃ d : Nat, -i + j = (d : Int) := ⟨(-i + j).toNat, by omega⟩
  rw [hd]
  exact gp_D d
/-- so many factors, so many deltas -/
theorem sup_le : ∀ (T : List Nat) {h : okT m.1 T}, gle (gL m T h) (gD m (T.length : Int))
  | [], h => gle_rf _
  | t :: T, h => by
    obtain ⟨ht, hT⟩ := okT_c.mp h
    have h1 : okT m.1 [t] := okT_c.mpr ⟨ht, okT_n⟩
    rw [gL_c h1 hT]
    have k1 := (gle_l (gL m [t] h1)).mpr (sup_le T (h := hT))
    have k2 := gle_rD (T.length : Int) (gle_tD ht (h := h1))
    rw [D_cm, gD_m] at k2
    exact gle_tr k1 k2
theorem nf_sup : ∀ (F : List Nat) {h : okT m.1 F} (l : Nat), nfL m.1 F → gle (gL m F h) (gD m (l : Int)) → F.length ≤ l
  | [], _, l, _, _ => Nat.zero_le _
  | f :: F, h, 0, hn, hl => by
    exfalso
    have hf := (okT_c.mp h).1
    have := (gle_ln hl).1
    rw [glen_L, glen_D, Int.natCast_zero, Int.zero_mul] at this
    have e : szT m.1 (f :: F) = szG m.1 f + szT m.1 F := rfl
    exact (hn.2.2 f List.mem_cons_self).1 (sz_z m.2.1 m.2.2 hf (by omega))
  | f :: F, h, l + 1, hn, hl => by
    obtain ⟨hf, hF⟩ := okT_c.mp h
    have h1 : okT m.1 [f] := okT_c.mpr ⟨hf, okT_n⟩
    have hM := fst_M (hf := h1) (hF := h) hn.2.1
    have k : gle (gm (gL m (f :: F) h) (gi (gD m (l : Int)))) (gL m [f] h1) := by
      refine hM.2.2 _ ?_ ?_
      · unfold gle
        rw [gi_m, gi_i, gm_as, gi_l, g1_r]
        exact gp_D l
      · have e : gD m ((l + 1 : Nat) : Int) = gm (gD m 1) (gD m (l : Int)) := by
          rw [gD_m]
          congr 1
          omega
        have := gle_ri (l : Int) hl
        rw [e, gm_as (gD m 1), gi_r, g1_r] at this
        exact this
    have k2 := gle_rD (l : Int) k
    rw [gm_as (gL m (f :: F) h), gi_l, g1_r, gL_c h1 hF, gle_l] at k2
    have := nf_sup F l (nf_c hn) k2
    show F.length + 1 ≤ l + 1
    omega
/-- the last factor: what the inverse begins with -/
theorem lst_M {a : Nat} {F : List Nat} {hF : okT m.1 (F ++ [a])} (ha1 : okT m.1 [a]) (hn : nfL m.1 (F ++ [a])) : isM (gm (gi (gL m (F ++ [a]) hF)) (gD m ((F.length + 1 : Nat) : Int))) (gD m 1) (gm (gi (gL m [a] ha1)) (gD m 1)) := by
  obtain ⟨hF0, -⟩ := okT_a.mp hF
  have ha := (okT_c.mp ha1).1
  have eF : gL m (F ++ [a]) hF = gm (gL m F hF0) (gL m [a] ha1) := (gL_m hF0 ha1).symm
  have eD : gD m ((F.length + 1 : Nat) : Int) = gm (gD m (F.length : Int)) (gD m 1) := by
    rw [gD_m]
    congr 1
  have b1 : gle (gm (gi (gL m [a] ha1)) (gD m 1)) (gD m 1) := by
    unfold gle
    rw [gi_m, gi_i, gm_as]
    exact gp_cj 1 gp_L
  have b2 : gle (gm (gi (gL m [a] ha1)) (gD m 1)) (gm (gi (gL m (F ++ [a]) hF)) (gD m ((F.length + 1 : Nat) : Int))) := by
    unfold gle
    rw [eF, eD]
    have := gp_cj 1 (sup_le F (h := hF0))
    simp only [gm_as, gi_m, gi_i, gi_cr] at this ⊢
    exact this
  obtain ⟨c, hc⟩ := gmeet (gm (gi (gL m (F ++ [a]) hF)) (gD m ((F.length + 1 : Nat) : Int))) (gD m 1)
  have k1 := hc.2.2 _ b2 b1
  -- u: what c has more
  obtain ⟨u, hu⟩ : ∃ u, u = gm (gi (gm (gi (gL m [a] ha1)) (gD m 1))) c := ⟨_, rfl⟩
  have pu : gpo u := by rw [hu]; exact k1
  have ec : c = gm (gi (gL m [a] ha1)) (gm (gD m 1) u) := by
    rw [hu]
    simp only [gm_as, gi_m, gi_i, gi_cr, gi_cl]
  have pv : gpo (gm (gD m 1) (gm u (gi (gD m 1)))) := gp_ci 1 pu
  have va : gle (gm (gD m 1) (gm u (gi (gD m 1)))) (gL m [a] ha1) := by
    have := hc.2.1
    rw [ec, gle_s, gi_i] at this
    have := gle_ri 1 this
    simp only [gm_as, gi_r, g1_r] at this ⊢
    exact this
  have vF : gle (gm (gL m F hF0) (gm (gD m 1) (gm u (gi (gD m 1))))) (gD m (F.length : Int)) := by
    have := hc.1
    rw [eF, eD, ec, ← gle_s] at this
    have := gle_ri 1 this
    simp only [gm_as, gi_r, g1_r, gi_cr] at this ⊢
    exact this
  obtain ⟨t, h1, t1, et⟩ := gp_smp pv (gle_tr va (gle_tD ha))
  rw [et] at va vF
  have dt := (dv_1 m.2.1 m.2.2 t1 ha).mp (gle_L.mp va)
  have t0 : t = 0 := by
    refine Classical.byContradiction (fun hne => ?_)
    have hta : okT m.1 (F ++ [t]) := okT_a.mpr ⟨hF0, h1⟩
    have hn2 : nfL m.1 (F ++ [t]) := by
      refine ⟨hta, fun i g g' e1 e2 => ?_, fun g hg => ?_⟩
      · have l2 := (List.getElem?_eq_some_iff.mp e2).1
        rw [List.length_append, List.length_singleton] at l2
        rw [List.getElem?_append_left (by omega)] at e1
        by_cases c9 : i + 1 < F.length
        · rw [List.getElem?_append_left c9] at e2
          exact hn.2.1 i g g' (by rw [List.getElem?_append_left (by omega)]; exact e1) (by rw [List.getElem?_append_left c9]; exact e2)
        · rw [List.getElem?_append_right (by omega), show i + 1 - F.length = 0 by omega] at e2
          have e3 : t = g' := Option.some.inj e2
          rw [← e3]
          intro x hx m1 m2
          refine hn.2.1 i g a (by rw [List.getElem?_append_left (by omega)]; exact e1) (by rw [List.getElem?_append_right (by omega), show i + 1 - F.length = 0 by omega]; rfl) x hx m1 (dv_tr m.2.1 m.2.2 (lett m.2.1 m.2.2 hx) t1 ha m2 dt)
      · rcases List.mem_append.mp hg with h9 | h9
        · exact hn.2.2 g (List.mem_append_left _ h9)
        · rw [List.mem_singleton.mp h9]
          refine ⟨hne, fun e9 => ?_⟩
          rw [e9] at dt
          exact (hn.2.2 a (List.mem_append_right _ List.mem_cons_self)).2 (dv_as m.2.1 m.2.2 ha dl_lt (d_pk m.2.1 m.2.2 ha).2.2.2.2 dt)
    rw [gL_m hF0 h1] at vF
    have := nf_sup _ F.length hn2 vF
    rw [List.length_append, List.length_singleton] at this
    omega
  have e1 : gm (gD m 1) (gm u (gi (gD m 1))) = g1 m := by
    rw [et, ← gL_nil (h := okT_n)]
    subst t0
    exact gL_eq (eqT_id (X := []) (Y := []) m.2.1 m.2.2 okT_n okT_n)
  have u1 : u = g1 m := by
    refine gp_z pu ?_
    have := congrArg glen e1
    rw [glen_m, glen_m, glen_i, glen_1] at this
    omega
  rw [ec, u1, g1_r] at hc
  exact hc
/-- every list has a form -/
theorem nf_ex0 : ∀ (d : Nat) {T : List Nat} (hT : okT m.1 T), szT m.1 T ≤ d → ¬ gle (gD m 1) (gL m T hT) → ∃ F, nfL m.1 F ∧ eqT m.1 T F
  | d, T, hT, hd, hD => by
    have h2 := m.2.1
    have h5 := m.2.2
    obtain ⟨c, hc⟩ := gmeet (gL m T hT) (gD m 1)
    have pc : gpo c := gle_1.mp (hc.2.2 _ (gle_1.mpr gp_L) (gle_1.mpr (gp_D 1)))
    obtain ⟨t, h1, t1, rfl⟩ := gp_smp pc hc.2.1
    by_cases t0 : t = 0
    · have e0 : glen (gL m [t] h1) = 0 := by
        rw [glen_L, t0]
        have : szT m.1 [0] = szG m.1 0 + 0 := rfl
        rw [this, sz_0 h2 h5]
        rfl
      have := gp_D1 gp_L hc e0
      exact ⟨[], ⟨okT_n, fun i g g' h9 => (by simp at h9), fun g hg => absurd hg List.not_mem_nil⟩, gL_ex this⟩
    · obtain ⟨T', hT', e⟩ := gle_L.mp hc.1
      have es := szT_eq h2 h5 _ (okT_a.mpr ⟨h1, hT'⟩) hT e
      rw [szT_a] at es
      have es2 : szT m.1 [t] = szG m.1 t + 0 := rfl
      have tp : szG m.1 t ≠ 0 := fun h9 => t0 (sz_z h2 h5 t1 h9)
      have eT : gL m T hT = gm (gL m [t] h1) (gL m T' hT') := by
        rw [gL_m]
        exact gL_eq e
      have hD' : ¬ gle (gD m 1) (gL m T' hT') := fun h9 => hD (by
        rw [eT]
        have k1 := (gle_l (gL m [t] h1)).mpr h9
        refine gle_tr ?_ k1
        rw [gL_D]
        exact gle_p gp_L)
      cases d with
      | zero => omega
      | succ d =>
        obtain ⟨F, hF, eF⟩ := nf_ex0 d hT' (by omega) hD'
        have eTF : eqT m.1 T (t :: F) := eqT_tr e (eqT_pr (P := [t]) h2 h5 h1 eF)
        have tD : t ≠ gNN m.1 - 1 := fun e9 => hD (by
          have e1 : gD m 1 = gL m [t] h1 := by
            subst e9
            exact (gL_rp (m := m) 1).symm
          rw [e1]
          exact hc.1)
        refine ⟨t :: F, ⟨okT_c.mpr ⟨t1, hF.1⟩, fun i g g' e1 e2 => ?_, fun g hg => ?_⟩, eTF⟩
        · cases i with
          | zero =>
            have e1 : t = g := Option.some.inj e1
            subst e1
            intro x hx m1 m2
            have hl := lett h2 h5 hx
            have hg' := hF.1 g' (List.mem_of_getElem? e2)
            obtain ⟨F', rfl⟩ : ∃ F', F = g' :: F' := by
              cases F with
              | nil => simp at e2
              | cons a F' =>
                have : a = g' := Option.some.inj e2
                exact ⟨F', by rw [this]⟩
            obtain ⟨w, w1⟩ : ∃ w, moG m.1 t x = w + 1 := ⟨moG m.1 t x - 1, by omega⟩
            have w2 : muG m.1 t (moG m.1 0 x - 1) = w + 1 := by rw [mu_let h2 h5 hx, w1]
            have hw := (mu_lt h2 h5 t1 w2).1
            have hw1 : okT m.1 [w] := okT_c.mpr ⟨hw, okT_n⟩
            -- t x divides T
            have dx : dvT m.1 [moG m.1 0 x - 1] (g' :: F') := by
              obtain ⟨C, c1, c2⟩ := (dv_1 h2 h5 hl hg').mpr m2
              have hF'' := (okT_c.mp hF.1).2
              exact ⟨C ++ F', okT_a.mpr ⟨c1, hF''⟩, eqT_ap h2 h5 F' hF'' (okT_c.mpr ⟨hg', okT_n⟩) (okT_c.mpr ⟨hl, c1⟩) c2⟩
            obtain ⟨C, c1, c2⟩ := dx
            have dw : dvT m.1 [w] T := by
              refine ⟨C, c1, eqT_tr eTF (eqT_tr (eqT_pr (P := [t]) h2 h5 h1 c2) ?_)⟩
              have a1 : eqT m.1 [t, moG m.1 0 x - 1] [w] := eqT_tr (eqT_swp (X := []) (Y := []) h2 h5 okT_n okT_n t1 hl nn_0 w2 (mu_r0 h2 h5)) (eqT_id (X := [w]) (Y := []) h2 h5 hw1 okT_n)
              exact eqT_ap h2 h5 C c1 (okT_c.mpr ⟨t1, okT_c.mpr ⟨hl, okT_n⟩⟩) hw1 a1
            have kw : gle (gL m [w] hw1) (gL m [t] h1) := hc.2.2 _ (gle_L.mpr dw) (gle_tD hw)
            have := (gle_ln kw).1
            rw [glen_L, glen_L] at this
            have z1 : szT m.1 [w] = szG m.1 w + 0 := rfl
            have z2 := (mu_lt h2 h5 t1 w2).2
            rw [sz_let h2 h5 hx] at z2
            omega
          | succ i => exact hF.2.1 i g g' e1 e2
        · rcases List.mem_cons.mp hg with h9 | h9
          · rw [h9]
            exact ⟨t0, tD⟩
          · exact hF.2.2 g h9
theorem nf_ex {T : List Nat} (hT : okT m.1 T) : ∃ j F, nfL m.1 F ∧ eqT m.1 T (List.replicate j (gNN m.1 - 1) ++ F) := by
  have key : ∀ (d : Nat) {T : List Nat} (hT : okT m.1 T), szT m.1 T ≤ d → ∃ j F, nfL m.1 F ∧ eqT m.1 T (List.replicate j (gNN m.1 - 1) ++ F) := by
    intro d
    induction d with
    | zero =>
      intro T hT hd
      obtain ⟨F, f1, f2⟩ := nf_ex0 0 hT hd (fun h9 => by
        have := (gle_ln h9).1
        rw [glen_D, glen_L, Int.one_mul] at this
        have := sz_D1 (m := m)
        omega)
      exact ⟨0, F, f1, f2⟩
    | succ d ih =>
      intro T hT hd
      by_cases hD : gle (gD m 1) (gL m T hT)
      · have hR : okT m.1 [gNN m.1 - 1] := okT_c.mpr ⟨dl_lt, okT_n⟩
        have e1 : gD m 1 = gL m [gNN m.1 - 1] hR := (gL_rp (m := m) 1).symm
        rw [e1] at hD
        obtain ⟨C, c1, c2⟩ := gle_L.mp hD
        have es := szT_eq m.2.1 m.2.2 _ (okT_a.mpr ⟨hR, c1⟩) hT c2
        rw [szT_a] at es
        have es2 : szT m.1 [gNN m.1 - 1] = szG m.1 (gNN m.1 - 1) + 0 := rfl
        have := sz_D1 (m := m)
        unfold szD at this
        obtain ⟨j, F, f1, f2⟩ := ih c1 (by omega)
        exact ⟨j + 1, F, f1, eqT_tr c2 (eqT_pr (P := [gNN m.1 - 1]) m.2.1 m.2.2 hR f2)⟩
      · obtain ⟨F, f1, f2⟩ := nf_ex0 (d + 1) hT hd hD
        exact ⟨0, F, f1, f2⟩
  exact key _ hT (Nat.le_refl _)
end XG6
