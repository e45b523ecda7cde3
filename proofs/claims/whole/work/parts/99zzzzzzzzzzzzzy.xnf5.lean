/-! normal forms: the class, one letter after another -/
section NF7
variable {n : Nat} {a b : Int32}
theorem foM_n : ∀ (d i : Nat), foM n a b d i = none → ∀ j, i ≤ j → j < i + d → ¬ (foJ b (nI j + 1) < foJ b (nI j) ∧ foJ a (nI j) < foJ a (nI j + 1))
  | 0, i, _, j, h1, h3 => by omega
  | d + 1, i, e, j, h1, h3 => by
    rw [foM] at e
    by_cases c : foJ b (nI i + 1) < foJ b (nI i) ∧ foJ a (nI i) < foJ a (nI i + 1)
    · rw [if_pos c] at e
      cases e
    · rw [if_neg c] at e
      by_cases c2 : j = i
      · rw [c2]
        exact c
      · exact foM_n d (i + 1) e j (by omega) (by omega)
theorem foM_s : ∀ (d i x : Nat), foM n a b d i = some x → i ≤ x ∧ x < i + d ∧ foJ b (nI x + 1) < foJ b (nI x) ∧ foJ a (nI x) < foJ a (nI x + 1)
  | 0, i, x, e => by cases e
  | d + 1, i, x, e => by
    rw [foM] at e
    by_cases c : foJ b (nI i + 1) < foJ b (nI i) ∧ foJ a (nI i) < foJ a (nI i + 1)
    · rw [if_pos c] at e
      cases e
      exact ⟨Nat.le_refl _, by omega, c⟩
    · rw [if_neg c] at e
      obtain ⟨k1, k2, k3⟩ := foM_s d (i + 1) x e
      exact ⟨by omega, by omega, k3⟩
theorem oNI_0 {o : Option Nat} (ho : ∀ x, o = some x → x < 2 ^ 31) (e : oNI o = -1) : o = none := by
  cases o with
  | none => rfl
  | some x => exact absurd e (oM_n (ho x rfl))
theorem lw_M (h2 : 2 ≤ n) (h5 : n ≤ 5) {p q : Nat} (hp : p < gNN n) (hq : q < gNN n) (e : foM n (ivG n p) (pkG n q) (n - 1) 0 = none) : lwG n p q := fun c hc m1 d1 => foM_n _ _ e c (Nat.zero_le _) (by omega) ⟨(d_qa h2 h5 hq hc).2.1.mpr d1, (d_qa h2 h5 hp hc).1.mpr m1⟩
theorem lw_r0 (h2 : 2 ≤ n) (h5 : n ≤ 5) {p : Nat} : lwG n p 0 := fun c hc _ d1 => by
  rw [dd_0l h2 h5 (lett h2 h5 hc)] at d1
  exact let_ne h2 h5 hc d1
theorem sz_let (h2 : 2 ≤ n) (h5 : n ≤ 5) {c : Nat} (hc : c + 1 < n) : szG n (moG n 0 c - 1) = 1 := by
  have h1 := ((f_two h2 h5 nn_0 hc).2.2.2 (f_fiv h2 h5 hc).1).1
  rw [sz_0 h2 h5] at h1
  exact h1
/-- under the delta -/
theorem lw_ov (h2 : 2 ≤ n) (h5 : n ≤ 5) {g g' : Nat} (hg : g < gNN n) (hg' : g' < gNN n) (h : lwG n g g') : lwG n (ovG n g) (ovG n g') := by
  intro c hc m1 d1
  have hc' : n - 2 - c + 1 < n := by omega
  have hl := lett h2 h5 hc
  have hl' := lett h2 h5 hc'
  have e : moG n 0 c - 1 = ovG n (moG n 0 (n - 2 - c) - 1) := by
    rw [(d_ql h2 h5 hc').2.2, show n - 2 - (n - 2 - c) = c by omega]
  have o0 : ovG n 0 = 0 := by
    have := (f_one h2 h5 (nn_0 (n := n))).2.2.2.1
    rw [sz_0 h2 h5] at this
    exact sz_z h2 h5 (ov_lt h2 h5 nn_0) this
  have inj : ∀ v, v < gNN n → ovG n v = 0 → v = 0 := fun v hv e0 => by
    have k := (d_pk h2 h5 hv).2.2.1
    rw [e0, o0] at k
    exact k.symm
  have oD : ovG n (gNN n - 1) = gNN n - 1 := by
    have hD := dl_lt (n := n)
    refine dv_as h2 h5 (ov_lt h2 h5 hD) hD (d_pk h2 h5 (ov_lt h2 h5 hD)).2.2.2.2 ?_
    have k := (d_pb h2 h5 hD (ov_lt h2 h5 hD)).2.2
    rw [(d_pk h2 h5 hD).2.2.1, (d_pk h2 h5 (ov_lt h2 h5 hD)).2.2.2.2, o0] at k
    exact k
  rw [e, (d_pb h2 h5 hg' hl').2.2] at d1
  have d2 := inj _ (dd_lt h2 h5 hg' hl') d1
  refine h _ hc' ?_ d2
  rw [← mu_let h2 h5 hc] at m1
  rw [← mu_let h2 h5 hc']
  refine (d_pb h2 h5 hg hl').1.mpr ?_
  have k := (d_pb h2 h5 (ov_lt h2 h5 hg) hl).1.mp m1
  have hD := dl_lt (n := n)
  rw [e, ← oD, (d_pb h2 h5 hg hD).2.2, (d_pb h2 h5 (dd_lt h2 h5 hg hD) hl').2.2] at k
  exact inj _ (dd_lt h2 h5 (dd_lt h2 h5 hg hD) hl') k
theorem ovz_0 (h2 : 2 ≤ n) (h5 : n ≤ 5) : ovG n 0 = 0 := by
  have := (f_one h2 h5 (nn_0 (n := n))).2.2.2.1
  rw [sz_0 h2 h5] at this
  exact sz_z h2 h5 (ov_lt h2 h5 nn_0) this
theorem ov_D (h2 : 2 ≤ n) (h5 : n ≤ 5) : ovG n (gNN n - 1) = gNN n - 1 := by
  have hD := dl_lt (n := n)
  refine dv_as h2 h5 (ov_lt h2 h5 hD) hD (d_pk h2 h5 (ov_lt h2 h5 hD)).2.2.2.2 ?_
  have k := (d_pb h2 h5 hD (ov_lt h2 h5 hD)).2.2
  rw [(d_pk h2 h5 hD).2.2.1, (d_pk h2 h5 (ov_lt h2 h5 hD)).2.2.2.2, ovz_0 h2 h5] at k
  exact k
theorem nf_ov (h2 : 2 ≤ n) (h5 : n ≤ 5) {F : List Nat} (h : nfL n F) : nfL n (F.map (ovG n)) := by
  obtain ⟨h1, h3, h4⟩ := h
  refine ⟨okT_ov h2 h5 h1, fun i g g' k1 k2 => ?_, fun g hg => ?_⟩
  · rw [List.getElem?_map] at k1 k2
    cases e1 : F[i]? with
    | none =>
      rw [e1] at k1
      cases k1
    | some u =>
      cases e2 : F[i + 1]? with
      | none =>
        rw [e2] at k2
        cases k2
      | some u' =>
        rw [e1] at k1
        rw [e2] at k2
        cases k1
        cases k2
        exact lw_ov h2 h5 (h1 u (List.mem_of_getElem? e1)) (h1 u' (List.mem_of_getElem? e2)) (h3 i u u' e1 e2)
  · obtain ⟨s, hs, e⟩ := List.mem_map.mp hg
    obtain ⟨s1, s2⟩ := h4 s hs
    have k := (d_pk h2 h5 (h1 s hs)).2.2.1
    refine ⟨fun e0 => s1 ?_, fun e0 => s2 ?_⟩
    · rw [e, e0, ovz_0 h2 h5] at k
      exact k.symm
    · rw [e, e0, ov_D h2 h5] at k
      exact k.symm
theorem eqT_pre (h2 : 2 ≤ n) (h5 : n ≤ 5) : ∀ (V P X Y : List Nat), okT n V → okT n P → eqT n X Y → rsG n V (P ++ X) = rsG n V (P ++ Y)
  | [], _, _, _, _, _, _ => rfl
  | v :: V, P, X, Y, hV, hP, h => by
    obtain ⟨hv, hV⟩ := okT_c.mp hV
    obtain ⟨p1, p2, -⟩ := r1_ok h2 h5 P hv hP
    obtain ⟨e1, e2⟩ := eqT_1 h p1
    show (r1G n v (P ++ X)).1 :: rsG n V (r1G n v (P ++ X)).2 = (r1G n v (P ++ Y)).1 :: rsG n V (r1G n v (P ++ Y)).2
    rw [r1_app, r1_app]
    show (r1G n (r1G n v P).1 X).1 :: rsG n V ((r1G n v P).2 ++ (r1G n (r1G n v P).1 X).2) = (r1G n (r1G n v P).1 Y).1 :: rsG n V ((r1G n v P).2 ++ (r1G n (r1G n v P).1 Y).2)
    rw [e1, eqT_pre h2 h5 V _ _ _ hV p2 e2]
end NF7
section NF8
variable {vl : Nat → Nat} {y : ow_MS} {h n : Nat} {κ : Int32} {L : List Nat}
theorem fo_rd {i p : Nat} (h0 : foA y h n κ (L.map (pkG n))) (e : L[i]? = some p) : y.2.1 (h + 4) i = pkG n p := by
  refine h0.2.2.2.2.1 i _ ?_
  rw [List.getElem?_map, e]
  rfl
theorem fo_len (h0 : foA y h n κ (L.map (pkG n))) : y.1 (h + 3) = nI L.length ∧ L.length ≤ 24 := by
  obtain ⟨a1, a2, a3, a4, a5, a6, a7⟩ := h0
  rw [List.length_map] at a3 a4
  exact ⟨a3, a4⟩
theorem fo_set {i p : Nat} (h0 : foA y h n κ (L.map (pkG n))) : foA (usI y (h + 4) i (pkG n p)) h n κ ((L.set i p).map (pkG n)) := by
  obtain ⟨a1, a2, a3, a4, a5, a6, a7⟩ := h0
  refine ⟨a1, a2, ?_, ?_, fun j c e => ?_, a6, a7⟩
  · rw [List.length_map, List.length_set]
    rw [List.length_map] at a3
    exact a3
  · rw [List.length_map, List.length_set]
    rw [List.length_map] at a4
    exact a4
  · rw [List.map_set] at e
    by_cases c1 : j = i
    · subst c1
      have l := (List.getElem?_eq_some_iff.mp e).1
      rw [List.length_set] at l
      rw [List.getElem?_set_self l] at e
      rw [po_usI_at]
      exact Option.some.inj e
    · rw [List.getElem?_set_ne (Ne.symm c1)] at e
      rw [po_usI_ne c1]
      exact a5 j c e
theorem xc_weigh {i p q : Nat} (hh : fO h) (h2 : 2 ≤ n) (h5 : n ≤ 5) (hL : okT n L) (h0 : foA y h n κ (L.map (pkG n))) (ea : L[i]? = some p) (eb : L[i + 1]? = some q) : Te (fun K => ce_X5_weigh vl K h (nI i) y) (fun r => (r.1 = 0 ∧ r.2 = y ∧ lwG n p q) ∨ (r.1 = 1 ∧ fr (foP h) y r.2 ∧ ∃ x p' q', x < gNN n ∧ q' < gNN n ∧ muG n p x = p' + 1 ∧ muG n x q' = q + 1 ∧ lwG n p' q' ∧ foA r.2 h n κ (((L.set i p').set (i + 1) q').map (pkG n)))) := by
  let Q : Int32 × ow_MS → Prop := fun r => (r.1 = 0 ∧ r.2 = y ∧ lwG n p q) ∨ (r.1 = 1 ∧ fr (foP h) y r.2 ∧ ∃ x p' q', x < gNN n ∧ q' < gNN n ∧ muG n p x = p' + 1 ∧ muG n x q' = q + 1 ∧ lwG n p' q' ∧ foA r.2 h n κ (((L.set i p').set (i + 1) q').map (pkG n)))
  have hp := hL p (List.mem_of_getElem? ea)
  have hq := hL q (List.mem_of_getElem? eb)
  have hi := (List.getElem?_eq_some_iff.mp eb).1
  have hl24 := (fo_len h0).2
  have h1 : y.1 (h + 1) = nI n := h0.1
  have c2 : ∀ (x p' q' : Nat) (c d : Int32), x < gNN n → q' < gNN n → muG n p x = p' + 1 → muG n x q' = q + 1 → lwG n p' q' → Tt (fun K t => c_X5_weigh vl K t 2 (nI i) (ivG n p') (pkG n q') c d h y) Q := by
    intro x p' q' c d k1 k2 k3 k4 k5
    have hp' := (mu_lt h2 h5 hp k3).1
    refine u_X5_weigh_2 ?_; unfold cm_X5_weigh_2
    rw [nI_1]
    refine w_rdF h1 (w_cs1 (tc_invert h5) ?_)
    rintro v z ⟨e1, e2⟩
    dsimp only at e1 e2
    rw [e1, e2, (d_qk h2 h5 hp').1]
    exact w_ctI (fO_4 hh) rfl (show i < 24 by omega) (w_ctI (fO_4 hh) rfl (show i + 1 < 24 by omega) (w_okZ (Or.inr rfl) (w_some (Or.inr ⟨rfl, fr_I2 (fr_I (by unfold foP; omega)) (by unfold foP; omega), x, p', q', k1, k2, k3, k4, k5, fo_set (fo_set h0)⟩))))
  have c1 : ∀ (k j x p' q' : Nat), j + k = 10 → x < gNN n → q' < gNN n → muG n p x = p' + 1 → muG n x q' = q + 1 → szG n q' + j ≤ 10 → Tt (fun K t => c_X5_weigh vl K t 1 (nI i) (ivG n p') (pkG n q') (oNI (foM n (ivG n p') (pkG n q') (n - 1) 0)) (nI j) h y) Q := by
    intro k
    induction k with
    | zero =>
      intro j x p' q' hj k1 k2 k3 k4 k5
      have hq0 : q' = 0 := sz_z h2 h5 k2 (by omega)
      refine u_X5_weigh_1 ?_; unfold cm_X5_weigh_1
      refine w_leT (a := 10) (by omega) (by omega) (c2 x p' q' _ _ k1 k2 k3 k4 ?_)
      rw [hq0]
      exact lw_r0 h2 h5
    | succ k ih =>
      intro j x p' q' hj k1 k2 k3 k4 k5
      have hp' := (mu_lt h2 h5 hp k3).1
      refine u_X5_weigh_1 ?_; unfold cm_X5_weigh_1
      refine w_leF (a := 10) (by omega) (by omega) (w_if (fun e => c2 x p' q' _ _ k1 k2 k3 k4 (lw_M h2 h5 hp' k2 (oNI_0 (fun u hu => by have := foM_s _ _ _ hu; omega) e))) (fun e => ?_))
      cases eM : foM n (ivG n p') (pkG n q') (n - 1) 0 with
      | none =>
        rw [eM] at e
        exact absurd rfl e
      | some u =>
        obtain ⟨-, u1, u2, u3⟩ := foM_s _ _ _ eM
        have hu : u + 1 < n := by omega
        have m1 := (d_qa h2 h5 hp' hu).1.mp u3
        have d1 := (d_qa h2 h5 k2 hu).2.1.mp u2
        have hl := lett h2 h5 hu
        have x1 := (d_qa h2 h5 hp' hu).2.2.1 m1
        have x2 := (d_qa h2 h5 k2 hu).2.2.2 d1
        have m2 : muG n p' (moG n 0 u - 1) = (moG n p' u - 1) + 1 := by
          rw [mu_let h2 h5 hu]
          omega
        obtain ⟨r, r1, r2, r3⟩ := as1 h2 h5 hp k1 hl k3 m2
        have e2 := dd_mu h2 h5 hl k2 d1
        have hq2 := dd_lt h2 h5 hl k2
        have e3 := as2 h2 h5 k1 hl hq2 r2 e2 k4
        have sz := (mu_lt h2 h5 hl e2).2
        rw [sz_let h2 h5 hu] at sz
        refine w_cs1 tc_exchanged ?_
        rintro v z ⟨e5, e6⟩
        dsimp only at e5 e6
        rw [e5, e6]
        refine w_cs1 tc_exchanged ?_
        rintro v2 z2 ⟨e7, e8⟩
        dsimp only at e7 e8
        rw [e7, e8]
        refine w_cs1 (tc_movable h1 (by omega) h5) ?_
        rintro v3 z3 ⟨e9, e10⟩
        dsimp only at e9 e10
        rw [e9, e10, nI_1]
        show Tt (fun K t => c_X5_weigh vl K t 1 (nI i) (foX (ivG n p') (nI u)) (foX (pkG n q') (nI u)) (oNI (foM n (foX (ivG n p') (nI u)) (foX (pkG n q') (nI u)) (n - 1) 0)) (nI (j + 1)) h y) Q
        rw [x1, x2]
        exact ih (j + 1) r _ _ (by omega) r1 hq2 r3 e3 (by omega)
  refine e_X5_weigh ?_
  refine u_X5_weigh_0 ?_; unfold cm_X5_weigh_0
  rw [nI_1]
  refine w_crI (fO_4 hh) rfl (show i < 24 by omega) (fo_rd h0 ea) (w_rdF h1 (w_cs1 (tc_invert h5) ?_))
  rintro v z ⟨e1, e2⟩
  dsimp only at e1 e2
  rw [e1, e2]
  refine w_crI (fO_4 hh) rfl (show i + 1 < 24 by omega) (fo_rd h0 eb) (w_cs1 (tc_movable h1 (by omega) h5) ?_)
  rintro v2 z2 ⟨e3, e4⟩
  dsimp only at e3 e4
  rw [e3, e4]
  refine w_if (fun e => w_okZ (Or.inl rfl) (w_some (Or.inl ⟨rfl, rfl, lw_M h2 h5 hp hq (oNI_0 (fun u hu => by have := foM_s _ _ _ hu; omega) e)⟩))) (fun _ => ?_)
  exact c1 10 0 0 p q (by omega) nn_0 hq (mu_r0 h2 h5) (mu_l0 h2 h5 hq) (by have := (f_one h2 h5 hq).1; omega)
end NF8
