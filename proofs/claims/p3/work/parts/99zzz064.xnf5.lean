section
/-! 99zzzzzzzzzzzzzy.xnf5 -/
/-! normal forms: the class, one letter after another -/
section NF7
variable {n : Nat} {a b : Int32}
theorem foM_n : ∀ (d i : Nat), foM n a b d i = none → ∀ j, i ≤ j → j < i + d → ¬ (foJ b (nI j + 1) < foJ b (nI j) ∧ foJ a (nI j) < foJ a (nI j + 1))
  | 0, i, _, j, h1, h3 => by omega
  | d + 1, i, e, j, h1, h3 => by
    rw [foM] at e
    by_cases c : foJ b (nI i + 1) < foJ b (nI i) ∧ foJ a (nI i) < foJ a (nI i + 1)
    · rw [if_pos c] at e
      cases e
    · rw [if_neg c] at e
      by_cases c2 : j = i
      · rw [c2]
        exact c
      · exact foM_n d (i + 1) e j (by omega) (by omega)
theorem foM_s : ∀ (d i x : Nat), foM n a b d i = some x → i ≤ x ∧ x < i + d ∧ foJ b (nI x + 1) < foJ b (nI x) ∧ foJ a (nI x) < foJ a (nI x + 1)
  | 0, i, x, e => by cases e
  | d + 1, i, x, e => by
    rw [foM] at e
    by_cases c : foJ b (nI i + 1) < foJ b (nI i) ∧ foJ a (nI i) < foJ a (nI i + 1)
    · rw [if_pos c] at e
      cases e
      exact ⟨Nat.le_refl _, by omega, c⟩
    · rw [if_neg c] at e
      obtain ⟨k1, k2, k3⟩ := foM_s d (i + 1) x e
      exact ⟨by omega, by omega, k3⟩
theorem oNI_0 {o : Option Nat} (ho : ∀ x, o = some x → x < 2 ^ 31) (e : oNI o = -1) : o = none := by
  cases o with
  | none => rfl
  | some x => exact absurd e (oM_n (ho x rfl))
theorem lw_M (h2 : 2 ≤ n) (h5 : n ≤ 5) {p q : Nat} (hp : p < gNN n) (hq : q < gNN n) (e : foM n (ivG n p) (pkG n q) (n - 1) 0 = none) : lwG n p q := fun c hc m1 d1 => foM_n _ _ e c (Nat.zero_le _) (by omega) ⟨(d_qa h2 h5 hq hc).2.1.mpr d1, (d_qa h2 h5 hp hc).1.mpr m1⟩
theorem lw_r0 (h2 : 2 ≤ n) (h5 : n ≤ 5) {p : Nat} : lwG n p 0 := fun c hc _ d1 => by
  rw [dd_0l h2 h5 (lett h2 h5 hc)] at d1
  exact let_ne h2 h5 hc d1
theorem sz_let (h2 : 2 ≤ n) (h5 : n ≤ 5) {c : Nat} (hc : c + 1 < n) : szG n (moG n 0 c - 1) = 1 := by
  have h1 := ((f_two h2 h5 nn_0 hc).2.2.2 (f_fiv h2 h5 hc).1).1
  rw [sz_0 h2 h5] at h1
  exact h1
/-- under the delta -/
theorem lw_ov (h2 : 2 ≤ n) (h5 : n ≤ 5) {g g' : Nat} (hg : g < gNN n) (hg' : g' < gNN n) (h : lwG n g g') : lwG n (ovG n g) (ovG n g') := by
  intro c hc m1 d1
  have hc' : n - 2 - c + 1 < n := by omega
  have hl := lett h2 h5 hc
  have hl' := lett h2 h5 hc'
  have e : moG n 0 c - 1 = ovG n (moG n 0 (n - 2 - c) - 1) := by
    rw [(d_ql h2 h5 hc').2.2, show n - 2 - (n - 2 - c) = c by omega]
  have o0 : ovG n 0 = 0 := by
    have := (f_one h2 h5 (nn_0 (n := n))).2.2.2.1
    rw [sz_0 h2 h5] at this
    exact sz_z h2 h5 (ov_lt h2 h5 nn_0) this
  have inj : ∀ v, v < gNN n → ovG n v = 0 → v = 0 := fun v hv e0 => by
    have k := (d_pk h2 h5 hv).2.2.1
    rw [e0, o0] at k
    exact k.symm
  have oD : ovG n (gNN n - 1) = gNN n - 1 := by
    have hD := dl_lt (n := n)
    refine dv_as h2 h5 (ov_lt h2 h5 hD) hD (d_pk h2 h5 (ov_lt h2 h5 hD)).2.2.2.2 ?_
    have k := (d_pb h2 h5 hD (ov_lt h2 h5 hD)).2.2
    rw [(d_pk h2 h5 hD).2.2.1, (d_pk h2 h5 (ov_lt h2 h5 hD)).2.2.2.2, o0] at k
    exact k
  rw [e, (d_pb h2 h5 hg' hl').2.2] at d1
  have d2 := inj _ (dd_lt h2 h5 hg' hl') d1
  refine h _ hc' ?_ d2
  rw [← mu_let h2 h5 hc] at m1
  rw [← mu_let h2 h5 hc']
  refine (d_pb h2 h5 hg hl').1.mpr ?_
  have k := (d_pb h2 h5 (ov_lt h2 h5 hg) hl).1.mp m1
  have hD := dl_lt (n := n)
  rw [e, ← oD, (d_pb h2 h5 hg hD).2.2, (d_pb h2 h5 (dd_lt h2 h5 hg hD) hl').2.2] at k
  exact inj _ (dd_lt h2 h5 (dd_lt h2 h5 hg hD) hl') k
theorem ovz_0 (h2 : 2 ≤ n) (h5 : n ≤ 5) : ovG n 0 = 0 := by
  have := (f_one h2 h5 (nn_0 (n := n))).2.2.2.1
  rw [sz_0 h2 h5] at this
  exact sz_z h2 h5 (ov_lt h2 h5 nn_0) this
theorem ov_D (h2 : 2 ≤ n) (h5 : n ≤ 5) : ovG n (gNN n - 1) = gNN n - 1 := by
  have hD := dl_lt (n := n)
  refine dv_as h2 h5 (ov_lt h2 h5 hD) hD (d_pk h2 h5 (ov_lt h2 h5 hD)).2.2.2.2 ?_
  have k := (d_pb h2 h5 hD (ov_lt h2 h5 hD)).2.2
  rw [(d_pk h2 h5 hD).2.2.1, (d_pk h2 h5 (ov_lt h2 h5 hD)).2.2.2.2, ovz_0 h2 h5] at k
  exact k
theorem nf_ov (h2 : 2 ≤ n) (h5 : n ≤ 5) {F : List Nat} (h : nfL n F) : nfL n (F.map (ovG n)) := by
  obtain ⟨h1, h3, h4⟩ := h
  refine ⟨okT_ov h2 h5 h1, fun i g g' k1 k2 => ?_, fun g hg => ?_⟩
  · rw [List.getElem?_map] at k1 k2
    cases e1 : F[i]? with
    | none =>
      rw [e1] at k1
      cases k1
    | some u =>
      cases e2 : F[i + 1]? with
      | none =>
        rw [e2] at k2
        cases k2
      | some u' =>
        rw [e1] at k1
        rw [e2] at k2
        cases k1
        cases k2
        exact lw_ov h2 h5 (h1 u (List.mem_of_getElem? e1)) (h1 u' (List.mem_of_getElem? e2)) (h3 i u u' e1 e2)
  · obtain ⟨s, hs, e⟩ := List.mem_map.mp hg
    obtain ⟨s1, s2⟩ := h4 s hs
    have k := (d_pk h2 h5 (h1 s hs)).2.2.1
    refine ⟨fun e0 => s1 ?_, fun e0 => s2 ?_⟩
    · rw [e, e0, ovz_0 h2 h5] at k
      exact k.symm
    · rw [e, e0, ov_D h2 h5] at k
      exact k.symm
theorem eqT_pre (h2 : 2 ≤ n) (h5 : n ≤ 5) : ∀ (V P X Y : List Nat), okT n V → okT n P → eqT n X Y → rsG n V (P ++ X) = rsG n V (P ++ Y)
  | [], _, _, _, _, _, _ => rfl
  | v :: V, P, X, Y, hV, hP, h => by
    obtain ⟨hv, hV⟩ := okT_c.mp hV
    obtain ⟨p1, p2, -⟩ := r1_ok h2 h5 P hv hP
    obtain ⟨e1, e2⟩ := eqT_1 h p1
    show (r1G n v (P ++ X)).1 :: rsG n V (r1G n v (P ++ X)).2 = (r1G n v (P ++ Y)).1 :: rsG n V (r1G n v (P ++ Y)).2
    rw [r1_app, r1_app]
    show (r1G n (r1G n v P).1 X).1 :: rsG n V ((r1G n v P).2 ++ (r1G n (r1G n v P).1 X).2) = (r1G n (r1G n v P).1 Y).1 :: rsG n V ((r1G n v P).2 ++ (r1G n (r1G n v P).1 Y).2)
    rw [e1, eqT_pre h2 h5 V _ _ _ hV p2 e2]
end NF7
section NF8
variable {vl : Nat → Nat} {y : ow_MS} {h n : Nat} {κ : Int32} {L : List Nat}
theorem fo_rd {i p : Nat} (h0 : foA y h n κ (L.map (pkG n))) (e : L[i]? = some p) : y.2.1 (h + 4) i = pkG n p := by
  refine h0.2.2.2.2.1 i _ ?_
  rw [List.getElem?_map, e]
  rfl
theorem fo_len (h0 : foA y h n κ (L.map (pkG n))) : y.1 (h + 3) = nI L.length ∧ L.length ≤ 24 := by
  obtain ⟨a1, a2, a3, a4, a5, a6, a7⟩ := h0
  rw [List.length_map] at a3 a4
  exact ⟨a3, a4⟩
theorem fo_set {i p : Nat} (h0 : foA y h n κ (L.map (pkG n))) : foA (usI y (h + 4) i (pkG n p)) h n κ ((L.set i p).map (pkG n)) := by
  obtain ⟨a1, a2, a3, a4, a5, a6, a7⟩ := h0
  refine ⟨a1, a2, ?_, ?_, fun j c e => ?_, a6, a7⟩
  · rw [List.length_map, List.length_set]
    rw [List.length_map] at a3
    exact a3
  · rw [List.length_map, List.length_set]
    rw [List.length_map] at a4
    exact a4
  · rw [List.map_set] at e
    by_cases c1 : j = i
    · subst c1
      have l := (List.getElem?_eq_some_iff.mp e).1
      rw [List.length_set] at l
      rw [List.getElem?_set_self l] at e
      rw [po_usI_at]
      exact Option.some.inj e
    · rw [List.getElem?_set_ne (Ne.symm c1)] at e
      rw [po_usI_ne c1]
      exact a5 j c e
theorem xc_weigh {i p q : Nat} (hh : fO h) (h2 : 2 ≤ n) (h5 : n ≤ 5) (hL : okT n L) (h0 : foA y h n κ (L.map (pkG n))) (ea : L[i]? = some p) (eb : L[i + 1]? = some q) : Te (fun K => ce_X5_weigh vl K h (nI i) y) (fun r => (r.1 = 0 ∧ r.2 = y ∧ lwG n p q) ∨ (r.1 = 1 ∧ fr (foP h) y r.2 ∧ ∃ x p' q', x < gNN n ∧ q' < gNN n ∧ muG n p x = p' + 1 ∧ muG n x q' = q + 1 ∧ lwG n p' q' ∧ foA r.2 h n κ (((L.set i p').set (i + 1) q').map (pkG n)))) := by
  let Q : Int32 × ow_MS → Prop := fun r => (r.1 = 0 ∧ r.2 = y ∧ lwG n p q) ∨ (r.1 = 1 ∧ fr (foP h) y r.2 ∧ ∃ x p' q', x < gNN n ∧ q' < gNN n ∧ muG n p x = p' + 1 ∧ muG n x q' = q + 1 ∧ lwG n p' q' ∧ foA r.2 h n κ (((L.set i p').set (i + 1) q').map (pkG n)))
  have hp := hL p (List.mem_of_getElem? ea)
  have hq := hL q (List.mem_of_getElem? eb)
  have hi := (List.getElem?_eq_some_iff.mp eb).1
  have hl24 := (fo_len h0).2
  have h1 : y.1 (h + 1) = nI n := h0.1
  have c2 : ∀ (x p' q' : Nat) (c d : Int32), x < gNN n → q' < gNN n → muG n p x = p' + 1 → muG n x q' = q + 1 → lwG n p' q' → Tt (fun K t => c_X5_weigh vl K t 2 (nI i) (ivG n p') (pkG n q') c d h y) Q := by
    intro x p' q' c d k1 k2 k3 k4 k5
    have hp' := (mu_lt h2 h5 hp k3).1
    refine u_X5_weigh_2 ?_; unfold cm_X5_weigh_2
    rw [nI_1]
    refine w_rdF h1 (w_cs1 (tc_invert h5) ?_)
    rintro v z ⟨e1, e2⟩
    dsimp only at e1 e2
    rw [e1, e2, (d_qk h2 h5 hp').1]
    exact w_ctI (fO_4 hh) rfl (show i < 24 by omega) (w_ctI (fO_4 hh) rfl (show i + 1 < 24 by omega) (w_okZ (Or.inr rfl) (w_some (Or.inr ⟨rfl, fr_I2 (fr_I (by unfold foP; omega)) (by unfold foP; omega), x, p', q', k1, k2, k3, k4, k5, fo_set (fo_set h0)⟩))))
  have c1 : ∀ (k j x p' q' : Nat), j + k = 10 → x < gNN n → q' < gNN n → muG n p x = p' + 1 → muG n x q' = q + 1 → szG n q' + j ≤ 10 → Tt (fun K t => c_X5_weigh vl K t 1 (nI i) (ivG n p') (pkG n q') (oNI (foM n (ivG n p') (pkG n q') (n - 1) 0)) (nI j) h y) Q := by
    intro k
    induction k with
    | zero =>
      intro j x p' q' hj k1 k2 k3 k4 k5
      have hq0 : q' = 0 := sz_z h2 h5 k2 (by omega)
      refine u_X5_weigh_1 ?_; unfold cm_X5_weigh_1
      refine w_leT (a := 10) (by omega) (by omega) (c2 x p' q' _ _ k1 k2 k3 k4 ?_)
      rw [hq0]
      exact lw_r0 h2 h5
    | succ k ih =>
      intro j x p' q' hj k1 k2 k3 k4 k5
      have hp' := (mu_lt h2 h5 hp k3).1
      refine u_X5_weigh_1 ?_; unfold cm_X5_weigh_1
      refine w_leF (a := 10) (by omega) (by omega) (w_if (fun e => c2 x p' q' _ _ k1 k2 k3 k4 (lw_M h2 h5 hp' k2 (oNI_0 (fun u hu => by have := foM_s _ _ _ hu; omega) e))) (fun e => ?_))
      cases eM : foM n (ivG n p') (pkG n q') (n - 1) 0 with
      | none =>
        rw [eM] at e
        exact absurd rfl e
      | some u =>
        obtain ⟨-, u1, u2, u3⟩ := foM_s _ _ _ eM
        have hu : u + 1 < n := by omega
        have m1 := (d_qa h2 h5 hp' hu).1.mp u3
        have d1 := (d_qa h2 h5 k2 hu).2.1.mp u2
        have hl := lett h2 h5 hu
        have x1 := (d_qa h2 h5 hp' hu).2.2.1 m1
        have x2 := (d_qa h2 h5 k2 hu).2.2.2 d1
        have m2 : muG n p' (moG n 0 u - 1) = (moG n p' u - 1) + 1 := by
          rw [mu_let h2 h5 hu]
          omega
        obtain ⟨r, r1, r2, r3⟩ := as1 h2 h5 hp k1 hl k3 m2
        have e2 := dd_mu h2 h5 hl k2 d1
        have hq2 := dd_lt h2 h5 hl k2
        have e3 := as2 h2 h5 k1 hl hq2 r2 e2 k4
        have sz := (mu_lt h2 h5 hl e2).2
        rw [sz_let h2 h5 hu] at sz
        refine w_cs1 tc_exchanged ?_
        rintro v z ⟨e5, e6⟩
        dsimp only at e5 e6
        rw [e5, e6]
        refine w_cs1 tc_exchanged ?_
        rintro v2 z2 ⟨e7, e8⟩
        dsimp only at e7 e8
        rw [e7, e8]
        refine w_cs1 (tc_movable h1 (by omega) h5) ?_
        rintro v3 z3 ⟨e9, e10⟩
        dsimp only at e9 e10
        rw [e9, e10, nI_1]
        show Tt (fun K t => c_X5_weigh vl K t 1 (nI i) (foX (ivG n p') (nI u)) (foX (pkG n q') (nI u)) (oNI (foM n (foX (ivG n p') (nI u)) (foX (pkG n q') (nI u)) (n - 1) 0)) (nI (j + 1)) h y) Q
        rw [x1, x2]
        exact ih (j + 1) r _ _ (by omega) r1 hq2 r3 e3 (by omega)
  refine e_X5_weigh ?_
  refine u_X5_weigh_0 ?_; unfold cm_X5_weigh_0
  rw [nI_1]
  refine w_crI (fO_4 hh) rfl (show i < 24 by omega) (fo_rd h0 ea) (w_rdF h1 (w_cs1 (tc_invert h5) ?_))
  rintro v z ⟨e1, e2⟩
  dsimp only at e1 e2
  rw [e1, e2]
  refine w_crI (fO_4 hh) rfl (show i + 1 < 24 by omega) (fo_rd h0 eb) (w_cs1 (tc_movable h1 (by omega) h5) ?_)
  rintro v2 z2 ⟨e3, e4⟩
  dsimp only at e3 e4
  rw [e3, e4]
  refine w_if (fun e => w_okZ (Or.inl rfl) (w_some (Or.inl ⟨rfl, rfl, lw_M h2 h5 hp hq (oNI_0 (fun u hu => by have := foM_s _ _ _ hu; omega) e)⟩))) (fun _ => ?_)
  exact c1 10 0 0 p q (by omega) nn_0 hq (mu_r0 h2 h5) (mu_l0 h2 h5 hq) (by have := (f_one h2 h5 hq).1; omega)
end NF8
end
section
/-! 99zzzzzzzzzzzzzz.xnf6 -/
/-! normal forms: the class, one simple braid behind another -/
section NF9
variable {vl : Nat → Nat} {y : ow_MS} {h n : Nat} {κ : Int32} {L : List Nat}
theorem xc_strip (hh : fO h) (h2 : 2 ≤ n) (h5 : n ≤ 5) (hk : okT n L) (hw : wtL n L) (h0 : foA y h n κ (L.map (pkG n))) : Te (fun K => ce_X5_strip vl K h y) (fun y1 => ∃ d F, foA y1 h n (κ + nI d) (F.map (pkG n)) ∧ nfL n F ∧ F.length ≤ L.length ∧ eqT n L (List.replicate d (gNN n - 1) ++ F) ∧ fr (foP h) y y1) := by
  let Q : ow_MS → Prop := fun y1 => ∃ d F, foA y1 h n (κ + nI d) (F.map (pkG n)) ∧ nfL n F ∧ F.length ≤ L.length ∧ eqT n L (List.replicate d (gNN n - 1) ++ F) ∧ fr (foP h) y y1
  obtain ⟨hl3, hl24⟩ := fo_len h0
  have len : ∀ d e, d + e ≤ L.length → ((L.drop d).take e).length = e := fun d e hde => by
    rw [List.length_take, List.length_drop]
    omega
  have c3 : ∀ (d e : Nat) (z : ow_MS) (x : Int32), d + e ≤ L.length → (∀ i g, i < d → L[i]? = some g → g = gNN n - 1) → (d < L.length → ∀ g, L[d]? = some g → g ≠ gNN n - 1) → (∀ i g, d + e ≤ i → L[i]? = some g → g = 0) → foA z h n (κ + nI d) (((L.drop d).take e).map (pkG n)) → fr (foP h) y z → Tt (fun K t => c_X5_strip vl K t 3 x h z) Q := by
    intro d e
    induction e with
    | zero =>
      intro z x hde k1 k3 k4 hz hf
      obtain ⟨z3, -⟩ := fo_len hz
      rw [len d 0 hde] at z3
      obtain ⟨n1, n2⟩ := nf_strip h2 h5 hk hw hde k1 k3 k4 (fun h9 => absurd h9 (Nat.lt_irrefl _))
      refine u_X5_strip_3 ?_; unfold cm_X5_strip_3
      exact w_rdF z3 (w_leT (b := 0) (by omega) (by omega) (w_some ⟨d, _, hz, n1, by rw [len d 0 hde]; omega, n2, hf⟩))
    | succ m ih =>
      intro z x hde k1 k3 k4 hz hf
      obtain ⟨z3, -⟩ := fo_len hz
      rw [len d (m + 1) hde] at z3
      have lm : d + m < L.length := by omega
      have hg : L[d + m]? = some L[d + m] := List.getElem?_eq_getElem lm
      have hg2 : ((L.drop d).take (m + 1))[m]? = some L[d + m] := by
        rw [List.getElem?_take_of_lt (by omega), List.getElem?_drop]
        exact hg
      have hgk := hk _ (List.mem_of_getElem? hg)
      refine u_X5_strip_3 ?_; unfold cm_X5_strip_3
      refine w_rdF z3 (w_leF (b := 0) (by omega) (by omega) (w_rdF z3 ?_))
      rw [show nI (m + 1) - 1 = nI m from pk_sub (b := 1) (by omega)]
      refine w_crI (fO_4 hh) rfl (show m < 24 by omega) (fo_rd hz hg2) (w_rdF hz.2.2.2.2.2.1 (w_if (fun e => w_rdF z3 (w_wrF ?_)) (fun e => ?_)))
      · have g0 := (d_qk h2 h5 hgk).2.2.1.mp e
        rw [show nI (m + 1) - 1 = nI m from pk_sub (b := 1) (by omega)]
        refine ih _ x (by omega) k1 k3 (fun i g hi hgi => ?_) ?_ (fr_F2 hf (by unfold foP; omega))
        · by_cases c : i = d + m
          · rw [c, hg] at hgi
            rw [← Option.some.inj hgi]
            exact g0
          · exact k4 i g (by omega) hgi
        · obtain ⟨a1, a2, a3, a4, a5, a6, a7⟩ := hz
          refine ⟨rf_ot (by omega) a1, rf_ot (by omega) a2, ?_, ?_, fun i c ei => a5 i c ?_, rf_ot (by omega) a6, rf_ot (by omega) a7⟩
          · rw [List.length_map, len d m (by omega)]
            exact po_usF_at
          · rw [List.length_map, len d m (by omega)]
            omega
          · have l := (List.getElem?_eq_some_iff.mp ei).1
            rw [List.length_map, len d m (by omega)] at l
            rw [List.getElem?_map, List.getElem?_take_of_lt (by omega)] at ei ⊢
            exact ei
      · have g0 : L[d + m] ≠ 0 := fun e0 => e ((d_qk h2 h5 hgk).2.2.1.mpr e0)
        obtain ⟨n1, n2⟩ := nf_strip h2 h5 hk hw hde k1 k3 k4 (fun _ g hgi => by
          rw [show d + (m + 1) - 1 = d + m by omega, hg] at hgi
          rw [← Option.some.inj hgi]
          exact g0)
        exact w_some ⟨d, _, hz, n1, by rw [len d _ hde]; omega, n2, hf⟩
  have c2 : ∀ j, j ≤ L.length → (∀ i g, i < j → L[i]? = some g → g = gNN n - 1) → (j < L.length → ∀ g, L[j]? = some g → g ≠ gNN n - 1) → Tt (fun K t => c_X5_strip vl K t 2 (nI j) h y) Q := by
    intro j hj k1 k3
    refine u_X5_strip_2 ?_; unfold cm_X5_strip_2
    have e3 : ∀ w : Int32, (usF y (h + 2) w).1 (h + 3) = nI L.length := fun w => rf_ot (by omega) hl3
    refine w_rdF h0.2.1 (w_wrF (w_rdF (e3 _) (w_wrF ?_)))
    rw [show nI L.length - nI j = nI (L.length - j) from pk_sub hj]
    refine w_rdF po_usF_at (w_cpI (a := j) (b := 0) (n := L.length - j) (fO_4 hh) (fO_4 hh) rfl rfl rfl (by omega) (by omega) ?_)
    refine c3 j (L.length - j) _ _ (by omega) k1 k3 (fun i g hi hgi => ?_) ?_ (fr_R2 (fr_F2 (fr_F (by unfold foP; omega)) (by unfold foP; omega)) (by unfold foP; omega))
    · have := (List.getElem?_eq_some_iff.mp hgi).1
      omega
    · obtain ⟨a1, a2, a3, a4, a5, a6, a7⟩ := h0
      refine ⟨rf_ot (by omega) (rf_ot (by omega) a1), rf_ot (by omega) po_usF_at, ?_, ?_, fun i c ei => ?_, rf_ot (by omega) (rf_ot (by omega) a6), rf_ot (by omega) (rf_ot (by omega) a7)⟩
      · rw [List.length_map, len j _ (by omega)]
        exact po_usF_at
      · rw [List.length_map, len j _ (by omega)]
        omega
      · have l := (List.getElem?_eq_some_iff.mp ei).1
        rw [List.length_map, len j _ (by omega)] at l
        rw [List.getElem?_map, List.getElem?_take_of_lt (by omega), List.getElem?_drop] at ei
        rw [usR_at, pk_cpy_in (by omega) (by omega), Nat.sub_zero]
        refine a5 (j + i) c ?_
        rw [List.getElem?_map]
        exact ei
  have c1 : ∀ (d j : Nat), j + d = L.length → (∀ i g, i < j → L[i]? = some g → g = gNN n - 1) → Tt (fun K t => c_X5_strip vl K t 1 (nI j) h y) Q := by
    intro d
    induction d with
    | zero =>
      intro j hj k1
      refine u_X5_strip_1 ?_; unfold cm_X5_strip_1
      exact w_rdF hl3 (w_leT (by omega) (by omega) (c2 j (by omega) k1 (fun h9 => by omega)))
    | succ d ih =>
      intro j hj k1
      have lm : j < L.length := by omega
      have hg : L[j]? = some L[j] := List.getElem?_eq_getElem lm
      have hgk := hk _ (List.mem_of_getElem? hg)
      refine u_X5_strip_1 ?_; unfold cm_X5_strip_1
      rw [nI_1]
      refine w_rdF hl3 (w_leF (by omega) (by omega) (w_crI (fO_4 hh) rfl (show j < 24 by omega) (fo_rd h0 hg) (w_rdF h0.2.2.2.2.2.2 (w_if (fun e => ih (j + 1) (by omega) (fun i g hi hgi => ?_)) (fun e => c2 j (by omega) k1 (fun _ g hgi e9 => ?_))))))
      · by_cases c : i = j
        · rw [c, hg] at hgi
          rw [← Option.some.inj hgi]
          exact (d_qk h2 h5 hgk).2.2.2.mp e
        · exact k1 i g (by omega) hgi
      · rw [hg] at hgi
        refine e ((d_qk h2 h5 hgk).2.2.2.mpr ?_)
        rw [Option.some.inj hgi]
        exact e9
  refine e_X5_strip ?_
  refine u_X5_strip_0 ?_; unfold cm_X5_strip_0
  exact c1 L.length 0 (by omega) (fun i g hi => absurd hi (Nat.not_lt_zero _))
theorem xc_putBehindF {F : List Nat} {b : Nat} (hh : fO h) (h2 : 2 ≤ n) (h5 : n ≤ 5) (hF : nfL n F) (hb : b < gNN n) (hl : F.length < 24) (h0 : foA y h n κ (F.map (pkG n))) : Te (fun K => ce_X5_putBehind vl K h (pkG n b) y) (fun y1 => ∃ d F', foA y1 h n (κ + nI d) (F'.map (pkG n)) ∧ nfL n F' ∧ F'.length ≤ F.length + 1 ∧ eqT n (F ++ [b]) (List.replicate d (gNN n - 1) ++ F') ∧ fr (foP h) y y1) := by
  let Q : ow_MS → Prop := fun y1 => ∃ d F', foA y1 h n (κ + nI d) (F'.map (pkG n)) ∧ nfL n F' ∧ F'.length ≤ F.length + 1 ∧ eqT n (F ++ [b]) (List.replicate d (gNN n - 1) ++ F') ∧ fr (foP h) y y1
  obtain ⟨h3, -⟩ := fo_len h0
  have c2 : ∀ (z : ow_MS) (a c : Int32) (L : List Nat), okT n L → wtL n L → L.length = F.length + 1 → eqT n (F ++ [b]) L → foA z h n κ (L.map (pkG n)) → fr (foP h) y z → Tt (fun K t => c_X5_putBehind vl K t 2 (pkG n b) a c h z) Q := by
    intro z a c L q1 q2 q3 q4 q5 q6
    refine u_X5_putBehind_2 ?_; unfold cm_X5_putBehind_2
    refine w_cs0 (xc_strip hh h2 h5 q1 q2 q5) ?_
    rintro z1 ⟨d, F', g1, g2, g3, g4, g5⟩
    exact w_some ⟨d, F', g1, g2, by omega, eqT_tr q4 g4, fr_tr q6 g5⟩
  have c1 : ∀ (m : Nat) (z : ow_MS) (a : Int32) (L : List Nat), m ≤ F.length → okT n L → L.length = F.length + 1 → eqT n (F ++ [b]) L → foA z h n κ (L.map (pkG n)) → fr (foP h) y z → (a = 1 ∧ wzI n F (F ++ [b]) L m ∨ a = 0 ∧ wtL n L) → Tt (fun K t => c_X5_putBehind vl K t 1 (pkG n b) a (iI ((m : Int) - 1)) h z) Q := by
    intro m
    induction m with
    | zero =>
      intro z a L hm q1 q3 q4 q5 q6 q7
      have hw : wtL n L := by
        rcases q7 with ⟨-, q7⟩ | ⟨-, q7⟩
        · exact wz_end hF.2.1 q7
        · exact q7
      refine u_X5_putBehind_1 ?_; unfold cm_X5_putBehind_1
      exact w_ifT (by decide) (c2 z _ _ L q1 hw q3 q4 q5 q6)
    | succ m ih =>
      intro z a L hm q1 q3 q4 q5 q6 q7
      have e : iI (((m + 1 : Nat) : Int) - 1) = nI m := by
        rw [nI_iI]
        congr 1
        omega
      refine u_X5_putBehind_1 ?_; unfold cm_X5_putBehind_1
      rw [e]
      refine w_ifF (nI_pos (by omega)) ?_
      rcases q7 with ⟨rfl, q7⟩ | ⟨rfl, q7⟩
      · have ea : L[m]? = some (L[m]'(by omega)) := List.getElem?_eq_getElem (by omega)
        have eb : L[m + 1]? = some (L[m + 1]'(by omega)) := List.getElem?_eq_getElem (by omega)
        refine w_ifF (by decide) (w_cs1 (xc_weigh hh h2 h5 q1 q5 ea eb) ?_)
        have e2 : nI m + -1 = iI ((m : Int) - 1) := by
          rw [nI_iI, show (-1 : Int32) = iI (-1) from rfl, iI_add]
          rfl
        rintro v z1 (⟨g1, g2, g3⟩ | ⟨g1, g2, x, p', q', x1, x2, x3, x4, x5, x6⟩)
        · dsimp only at g1 g2
          rw [e2, g1, g2]
          exact ih z 0 L (by omega) q1 q3 q4 q5 q6 (Or.inr ⟨rfl, wz_stop hF.2.1 q7 ea eb g3⟩)
        · dsimp only at g1 g2 x6
          rw [e2, g1]
          have st := wz_step h2 h5 hF.1 hF.2.1 q7 ea eb x1 x2 x3 x4 x5
          exact ih z1 1 _ (by omega) st.1 st.2.1 st.2.2.1 x6 (fr_tr q6 g2) (Or.inl ⟨rfl, st⟩)
      · exact w_ifT (by decide) (c2 z _ _ L q1 q7 q3 q4 q5 q6)
  refine e_X5_putBehind ?_
  refine u_X5_putBehind_0 ?_; unfold cm_X5_putBehind_0
  refine w_rdF h3 (w_lt (b := 24) (by omega) (by omega) (fun hl24 => w_rdF h3 (w_ctI (fO_4 hh) rfl hl24 (w_rdF (x := nI F.length) h3 (w_wrF ?_)))) (fun h9 => absurd hl (Nat.not_lt.mpr h9)))
  rw [nI_1]
  refine w_rdF po_usF_at ?_
  rw [show nI (F.length + 1) - 2 = iI ((F.length : Int) - 1) from by
    rw [nI_iI, show (2 : Int32) = iI 2 from rfl, iI_sub]
    congr 1
    omega]
  have st := wz_0 h2 h5 hF.1 hb (eqT_rf (n := n) (F ++ [b]))
  refine c1 F.length _ 1 (F ++ [b]) (Nat.le_refl _) st.1 st.2.1 st.2.2.1 ?_ (fr_F2 (fr_I (by unfold foP; omega)) (by unfold foP; omega)) (Or.inl ⟨rfl, st⟩)
  obtain ⟨a1, a2, a3, a4, a5, a6, a7⟩ := h0
  refine ⟨rf_ot (by omega) a1, rf_ot (by omega) a2, ?_, ?_, fun i c ei => ?_, rf_ot (by omega) a6, rf_ot (by omega) a7⟩
  · rw [List.length_map, List.length_append]
    exact po_usF_at
  · rw [List.length_map, List.length_append]
    show F.length + 1 ≤ 24
    omega
  · show (usI y (h + 4) F.length (pkG n b)).2.1 (h + 4) i = c
    rw [List.map_append] at ei
    by_cases c1 : i < F.length
    · rw [List.getElem?_append_left (by rw [List.length_map]; exact c1)] at ei
      rw [po_usI_ne (by omega)]
      exact a5 i c ei
    · have l := (List.getElem?_eq_some_iff.mp ei).1
      rw [List.length_append, List.length_map] at l
      have l : i < F.length + 1 := l
      have e : i = F.length := by omega
      rw [List.getElem?_append_right (by rw [List.length_map]; omega), List.length_map, e, Nat.sub_self] at ei
      rw [e, po_usI_at]
      exact Option.some.inj ei
end NF9
end
section
/-! 99zzzzzzzzzzzzzza.xnf7 -/
/-! normal forms: the class, a braid -/
theorem lx_f {c : Nat} (hc : c < 4) : ¬ (lx9 (c, false) ≤ 0) ∧ (if 0 ≤ lx9 (c, false) then lx9 (c, false) else 0 - lx9 (c, false)) - 1 = nI c := by
  have : ∀ c : Fin 4, ¬ (lx9 (c.val, false) ≤ 0) ∧ (if 0 ≤ lx9 (c.val, false) then lx9 (c.val, false) else 0 - lx9 (c.val, false)) - 1 = nI c.val := by decide +kernel
  exact this ⟨c, hc⟩
theorem lx_t {c : Nat} (hc : c < 4) : lx9 (c, true) ≤ 0 ∧ (if 0 ≤ lx9 (c, true) then lx9 (c, true) else 0 - lx9 (c, true)) - 1 = nI c := by
  have : ∀ c : Fin 4, lx9 (c.val, true) ≤ 0 ∧ (if 0 ≤ lx9 (c.val, true) then lx9 (c.val, true) else 0 - lx9 (c.val, true)) - 1 = nI c.val := by decide +kernel
  exact this ⟨c, hc⟩
section NF10
variable {vl : Nat → Nat} {y : ow_MS} {h n : Nat}
theorem st_ok (h2 : 2 ≤ n) (h5 : n ≤ 5) {p : Nat × Bool} {T : List Nat × Int} (hp : p.1 + 1 < n) (hT : okT n T.1) : okT n (stB9 n p T).1 := by
  unfold stB9
  split
  · exact okT_a.mpr ⟨okT_ov h2 h5 hT, okT_c.mpr ⟨(f_one h2 h5 (lett h2 h5 hp)).2.1, okT_n⟩⟩
  · exact okT_a.mpr ⟨hT, okT_c.mpr ⟨lett h2 h5 hp, okT_n⟩⟩
theorem fo_ok (h2 : 2 ≤ n) (h5 : n ≤ 5) {w : Nat → Nat × Bool} : ∀ (i : Nat), (∀ j, j < i → (w j).1 + 1 < n) → okT n (foT n w i).1
  | 0, _ => okT_n
  | i + 1, hw => st_ok h2 h5 (hw i (Nat.lt_succ_self _)) (fo_ok h2 h5 i (fun j hj => hw j (by omega)))
theorem rp_ok {j : Nat} : okT n (List.replicate j (gNN n - 1)) := fun t ht => by
  rw [(List.mem_replicate.mp ht).2]
  exact dl_lt
/-- one more behind, deltas in front -/
theorem eq_beh (h2 : 2 ≤ n) (h5 : n ≤ 5) {T F F' : List Nat} {j d b : Nat} (hT : okT n T) (hF : okT n F) (hb : b < gNN n) (he : eqT n T (List.replicate j (gNN n - 1) ++ F)) (h1 : eqT n (F ++ [b]) (List.replicate d (gNN n - 1) ++ F')) : eqT n (T ++ [b]) (List.replicate (j + d) (gNN n - 1) ++ F') := by
  refine eqT_tr (eqT_app h2 h5 hb hT (okT_a.mpr ⟨rp_ok, hF⟩) he) ?_
  rw [List.append_assoc, ← List.replicate_append_replicate, List.append_assoc]
  exact fun V hV => eqT_pre h2 h5 V _ _ _ hV rp_ok h1
theorem xc_takeLetter {p : Nat × Bool} {T : List Nat × Int} {F : List Nat} {j : Nat} (hh : fO h) (h2 : 2 ≤ n) (h5 : n ≤ 5) (hp : p.1 + 1 < n) (hT : okT n T.1) (hF : nfL n F) (hl : F.length < 24) (he : eqT n T.1 (List.replicate j (gNN n - 1) ++ F)) (h0 : foA y h n (iI (T.2 + j)) (F.map (pkG n))) : Te (fun K => ce_X5_takeLetter vl K h (lx9 p) y) (fun y1 => ∃ F' j', foA y1 h n (iI ((stB9 n p T).2 + (j' : Nat))) (F'.map (pkG n)) ∧ nfL n F' ∧ F'.length ≤ F.length + 1 ∧ eqT n (stB9 n p T).1 (List.replicate j' (gNN n - 1) ++ F') ∧ fr (foP h) y y1) := by
  let Q : ow_MS → Prop := fun y1 => ∃ F' j', foA y1 h n (iI ((stB9 n p T).2 + (j' : Nat))) (F'.map (pkG n)) ∧ nfL n F' ∧ F'.length ≤ F.length + 1 ∧ eqT n (stB9 n p T).1 (List.replicate j' (gNN n - 1) ++ F') ∧ fr (foP h) y y1
  obtain ⟨h3, hl24⟩ := fo_len h0
  obtain ⟨c, sg⟩ := p
  have hp : c + 1 < n := hp
  have hle := lett h2 h5 hp
  have hah := (f_one h2 h5 hle).2.1
  have hFo := nf_ov h2 h5 hF
  have c1 : ∀ (d i : Nat) (z : ow_MS), sg = true → i + d = F.length → foA z h n (iI (T.2 + j)) (((F.map (ovG n)).take i ++ F.drop i).map (pkG n)) → fr (foP h) y z → Tt (fun K t => c_X5_takeLetter vl K t 1 (lx9 (c, sg)) (nI c) (nI i) h z) Q := by
    intro d
    induction d with
    | zero =>
      intro i z es hi hz hf
      subst es
      have e0 : (F.map (ovG n)).take i ++ F.drop i = F.map (ovG n) := by
        rw [List.drop_of_length_le (by omega), List.append_nil, List.take_of_length_le (by rw [List.length_map]; omega)]
      rw [e0] at hz
      obtain ⟨z3, -⟩ := fo_len hz
      rw [List.length_map] at z3
      refine u_X5_takeLetter_1 ?_; unfold cm_X5_takeLetter_1
      refine w_rdF z3 (w_leT (by omega) (by omega) (w_rdF hz.2.1 (w_wrF ?_)))
      rw [show (1 : Int32) = iI 1 from rfl, iI_sub]
      have hz' : foA (usF z (h + 2) (iI (T.2 + j - 1))) h n (iI (T.2 + j - 1)) ((F.map (ovG n)).map (pkG n)) := by
        obtain ⟨a1, a2, a3, a4, a5, a6, a7⟩ := hz
        exact ⟨rf_ot (by omega) a1, po_usF_at, rf_ot (by omega) a3, a4, a5, rf_ot (by omega) a6, rf_ot (by omega) a7⟩
      refine w_rdF hz'.2.2.2.2.2.2 (w_rdF hz'.1 (w_cs1 (tc_exchangedBehind h5) ?_))
      rintro v z1 ⟨e1, e2⟩
      dsimp only at e1 e2
      rw [e1, e2, (d_ql h2 h5 hp).2.1]
      refine w_cs0 (xc_putBehindF hh h2 h5 hFo hah (by rw [List.length_map]; exact hl) hz') ?_
      rintro z2 ⟨d2, F', g1, g2, g3, g4, g5⟩
      rw [List.length_map] at g3
      refine w_some ⟨F', j + d2, ?_, g2, g3, ?_, fr_tr (fr_F2 hf (by unfold foP; omega)) g5⟩
      · rw [nI_iI, iI_add] at g1
        have : T.2 + (j : Int) - 1 + (d2 : Int) = T.2 - 1 + ((j + d2 : Nat) : Int) := by omega
        rw [this] at g1
        exact g1
      · have k := eqT_ov h2 h5 hT (okT_a.mpr ⟨rp_ok, hF.1⟩) he
        rw [List.map_append, List.map_replicate, ov_D h2 h5] at k
        exact eq_beh h2 h5 (okT_ov h2 h5 hT) hFo.1 hah k g4
    | succ d ih =>
      intro i z es hi hz hf
      subst es
      have li : i < F.length := by omega
      have lt : ((F.map (ovG n)).take i).length = i := by
        rw [List.length_take, List.length_map]
        omega
      have ei : ((F.map (ovG n)).take i ++ F.drop i)[i]? = some F[i] := by
        rw [List.getElem?_append_right (by omega), lt, Nat.sub_self, List.drop_eq_getElem_cons li]
        rfl
      obtain ⟨z3, -⟩ := fo_len hz
      rw [List.length_append, lt, List.length_drop, show i + (F.length - i) = F.length by omega] at z3
      refine u_X5_takeLetter_1 ?_; unfold cm_X5_takeLetter_1
      refine w_rdF z3 (w_leF (by omega) (by omega) (w_crI (fO_4 hh) rfl (show i < 24 by omega) (fo_rd hz ei) (w_rdF hz.1 (w_cs1 (tc_turned h5) ?_))))
      rintro v z1 ⟨e1, e2⟩
      dsimp only at e1 e2
      rw [e1, e2, (d_qk h2 h5 (hF.1 _ (List.getElem_mem li))).2.1]
      refine w_ctI (fO_4 hh) rfl (show i < 24 by omega) ?_
      rw [nI_1]
      refine ih (i + 1) _ rfl (by omega) ?_ (fr_I2 hf (by unfold foP; omega))
      have k := fo_set (i := i) (p := ovG n F[i]) hz
      have e3 : ((F.map (ovG n)).take i ++ F.drop i).set i (ovG n F[i]) = (F.map (ovG n)).take (i + 1) ++ F.drop (i + 1) := by
        rw [List.set_append_right _ _ (by omega), lt, Nat.sub_self, List.drop_eq_getElem_cons li, List.set_cons_zero, List.take_succ, List.getElem?_map, List.getElem?_eq_getElem li, List.append_assoc]
        rfl
      rw [e3] at k
      exact k
  cases sg with
  | false =>
    obtain ⟨x1, x2⟩ := lx_f (c := c) (by omega)
    refine e_X5_takeLetter ?_
    refine u_X5_takeLetter_0 ?_; unfold cm_X5_takeLetter_0
    rw [x2]
    refine w_ifF x1 (w_rdF h0.2.2.2.2.2.1 (w_cs1 tc_exchanged ?_))
    rintro v z1 ⟨e1, e2⟩
    dsimp only at e1 e2
    rw [e1, e2, (d_ql h2 h5 hp).1]
    refine w_cs0 (xc_putBehindF hh h2 h5 hF hle hl h0) ?_
    rintro z2 ⟨d2, F', g1, g2, g3, g4, g5⟩
    refine w_some ⟨F', j + d2, ?_, g2, g3, eq_beh h2 h5 hT hF.1 hle he g4, g5⟩
    rw [nI_iI, iI_add] at g1
    have : T.2 + (j : Int) + (d2 : Int) = T.2 + ((j + d2 : Nat) : Int) := by omega
    rw [this] at g1
    exact g1
  | true =>
    obtain ⟨x1, x2⟩ := lx_t (c := c) (by omega)
    refine e_X5_takeLetter ?_
    refine u_X5_takeLetter_0 ?_; unfold cm_X5_takeLetter_0
    rw [x2]
    exact w_ifT x1 (c1 F.length 0 y rfl (by omega) h0 fr_rf)
theorem xc_writeF {b l : Nat} {w : Nat → Nat × Bool} (hh : fO h) (h2 : 2 ≤ n) (h5 : n ≤ 5) (hb : b < 20) (e15 : y.2.1 15 b = nI n) (hl : l ≤ 16) (e14 : y.2.1 14 b = nI l) (hw : ∀ i, i < l → (w i).1 + 1 < n ∧ y.2.1 13 (16 * b + i) = lx9 (w i)) : Te (fun K => ce_X11_write vl K 0 h (nI b) y) (fun y1 => ∃ F j, foA y1 h n (iI ((foT n w l).2 + (j : Nat))) (F.map (pkG n)) ∧ nfL n F ∧ F.length ≤ l ∧ eqT n (foT n w l).1 (List.replicate j (gNN n - 1) ++ F) ∧ fr (foP h) y y1) := by
  have hh6 : 46000 ≤ h := by
    rcases hh with rfl | rfl | rfl | rfl <;> omega
  let Q : ow_MS → Prop := fun y1 => ∃ F j, foA y1 h n (iI ((foT n w l).2 + (j : Nat))) (F.map (pkG n)) ∧ nfL n F ∧ F.length ≤ l ∧ eqT n (foT n w l).1 (List.replicate j (gNN n - 1) ++ F) ∧ fr (foP h) y y1
  have c1 : ∀ (d i : Nat) (z : ow_MS) (F : List Nat) (j : Nat), i + d = l → foA z h n (iI ((foT n w i).2 + (j : Nat))) (F.map (pkG n)) → nfL n F → F.length ≤ i → eqT n (foT n w i).1 (List.replicate j (gNN n - 1) ++ F) → fr (foP h) y z → Tt (fun K t => c_X11_write vl K t 1 (nI b) (nI i) 0 h z) Q := by
    intro d
    induction d with
    | zero =>
      intro i z F j hi q1 q2 q3 q4 q5
      have e : i = l := by omega
      subst e
      refine u_X11_write_1 ?_; unfold cm_X11_write_1
      exact w_crI ch_14 rfl hb ((congrFun (q5 14 (by unfold foP; omega)).2.1 b).trans e14) (w_leT (by omega) (by omega) (w_some ⟨F, j, q1, q2, q3, q4, q5⟩))
    | succ d ih =>
      intro i z F j hi q1 q2 q3 q4 q5
      obtain ⟨w1, w2⟩ := hw i (by omega)
      refine u_X11_write_1 ?_; unfold cm_X11_write_1
      rw [m16, nI_add]
      refine w_crI ch_14 rfl hb ((congrFun (q5 14 (by unfold foP; omega)).2.1 b).trans e14) (w_leF (by omega) (by omega) (w_crI ch_13 rfl (show 16 * b + i < 320 by omega) ((congrFun (q5 13 (by unfold foP; omega)).2.1 _).trans w2) (w_cs0 (xc_takeLetter hh h2 h5 w1 (fo_ok h2 h5 i (fun k hk => (hw k (by omega)).1)) q2 (by omega) q4 q1) ?_)))
      rintro z1 ⟨F', j', g1, g2, g3, g4, g5⟩
      rw [nI_1]
      exact ih (i + 1) z1 F' j' (by omega) g1 g2 (by omega) g4 (fr_tr q5 g5)
  refine e_X11_write ?_
  refine u_X11_write_0 ?_; unfold cm_X11_write_0
  refine w_crI ch_15 rfl hb e15 (w_cs0 (tc_begin h5) ?_)
  rintro z ⟨g1, g2⟩
  exact c1 l 0 z [] 0 (by omega) g1 ⟨okT_n, fun i g g' k1 _ => (by rw [List.getElem?_nil] at k1; cases k1), fun g hg => absurd hg List.not_mem_nil⟩ (Nat.le_refl _) (eqT_rf _) g2
end NF10
end
section
/-! 99zzzzzzzzzzzzzzb.xnf8 -/
/-! normal answers the same -/
theorem far_nf {g : Nat} (hg : 46001 ≤ g) : ∀ h, nH h → ¬ cP h g := by
  intro h hh h9
  have key : ∀ a, a ∈ nHL → a ≤ 45000 := by decide
  have := key h hh
  unfold cP at h9
  omega
section NFA
variable {X : (Nat → Nat → Int32) → Prop} {P Q : Nat → Prop} {z z1 y y1 : ow_MS} {vl : Nat → Nat} {x x' : Int32}
theorem gM_nf (hf : fr Q y y1) (hQ : ∀ g, Q g → 46001 ≤ g ∧ g < 52000) (h : gM y) : gM y1 := ⟨⟨dgC_fr hf (fun g g1 g2 h9 => by have := hQ g h9; omega) h.1.1, nsC_fr hf (fun h hh g hg h9 => far_nf (g := g) (by have := hQ g h9; omega) h hh hg) h.1.2.1, kdC_fr hf (fun g h9 => by have := hQ g h9; omega) h.1.2.2⟩, tbs_fr hf (fun g h9 => by have := hQ g h9; omega) h.2⟩
theorem rel3_nf (hz : fr P z z1) (hy : fr Q y y1) (h1 : ∀ g, P g → g = 1 ∨ 108 ≤ g) (h2 : ∀ g, Q g → 46001 ≤ g ∧ g < 52000) (hI : gI X z1) (h : rel3 X z y) : rel3 X z1 y1 := by
  obtain ⟨⟨St, k1, k2, k3, k4, k5⟩, hM, t1, t2, t3, ⟨Ms, m1, m2, m3⟩, Ns, n1, n2, n3⟩ := h
  have hM1 := gM_nf hy h2 hM
  have no : ∀ g, 2 ≤ g → g < 108 → ¬ P g := fun g g1 g2 h9 => by
    have := h1 g h9
    omega
  have no2 : ∀ g, g < 46001 → ¬ Q g := fun g g2 h9 => by
    have := h2 g h9
    omega
  exact ⟨⟨St, hI, hM1.1, relR_fr hz (no 12 (by omega) (by omega)) k3, relC_fr hy (fun q hq => no2 q (by unfold cW at hq; omega)) k4, k5⟩, hM1, relT_k hz hy ⟨no _ (by omega) (by omega), no _ (by omega) (by omega)⟩ ⟨no2 _ (by omega), no2 _ (by omega)⟩ t1, relB_k hz hy ⟨no _ (by omega) (by omega), no _ (by omega) (by omega), no _ (by omega) (by omega)⟩ ⟨no2 _ (by omega), no2 _ (by omega), no2 _ (by omega)⟩ t2, brC_fr hy ⟨no2 _ (by omega), no2 _ (by omega), no2 _ (by omega)⟩ t3, ⟨Ms, rlR_k hz ⟨no _ (by omega) (by omega), no _ (by omega) (by omega), no _ (by omega) (by omega)⟩ m1, rlC_k hy (fun q hq => no2 q (by unfold cV at hq; omega)) m2, m3⟩, Ns, rlR_k hz ⟨no _ (by omega) (by omega), no _ (by omega) (by omega), no _ (by omega) (by omega)⟩ n1, rlC_k hy (fun q hq => no2 q (by unfold cV at hq; omega)) n2, n3⟩
theorem pf_nf {L : List Nat} (h : (L.all (fun g => g == 1 || decide (108 ≤ g))) = true) : ∀ g, pf L [] g → g = 1 ∨ 108 ≤ g := by
  rintro g (h1 | h1 | h1)
  · have h2 := List.all_eq_true.mp h g h1
    simp only [Bool.or_eq_true, beq_iff_eq, decide_eq_true_eq] at h2
    exact h2
  · exact absurd h1 List.not_mem_nil
  · omega
/-- a braid of the class, its letters -/
def brW (y : ow_MS) (x : Int32) (b n l : Nat) (w : Nat → Nat × Bool) : Prop := b < 20 ∧ x = nI b ∧ 2 ≤ n ∧ n ≤ 5 ∧ y.2.1 15 b = nI n ∧ l ≤ 16 ∧ y.2.1 14 b = nI l ∧ ∀ i, i < l → (w i).1 + 1 < n ∧ y.2.1 13 (16 * b + i) = lx9 (w i)
theorem wd_w {b n l : Nat} (h : wdB y b n l) : ∃ w : Nat → Nat × Bool, ∀ i, i < l → (w i).1 + 1 < n ∧ y.2.1 13 (16 * b + i) = lx9 (w i) := by
  refine Classical.axiomOfChoice (r := fun i p => i < l → p.1 + 1 < n ∧ y.2.1 13 (16 * b + i) = lx9 p) (fun i => ?_)
  by_cases hi : i < l
  · obtain ⟨a, e, a1, a2⟩ := h i hi
    by_cases h0 : 0 ≤ a
    · refine ⟨(a.natAbs - 1, false), fun _ => ⟨show a.natAbs - 1 + 1 < n by omega, ?_⟩⟩
      rw [e]
      show iI a = nI (a.natAbs - 1 + 1)
      rw [nI_iI]
      congr 1
      omega
    · refine ⟨(a.natAbs - 1, true), fun _ => ⟨show a.natAbs - 1 + 1 < n by omega, ?_⟩⟩
      rw [e]
      show iI a = -1 - nI (a.natAbs - 1)
      rw [nI_iI, show (-1 : Int32) = iI (-1) from rfl, iI_sub]
      congr 1
      omega
  · exact ⟨(0, false), fun h9 => absurd h9 hi⟩
def nvN (x' : Int32) (n l : Nat) (k : Int32) (m : Nat) : Int32 := if x' = 0 then k else if x' = 1 then nI m else if x' = 2 then nI l else nI n
theorem xc_normal (hB : brC y) : Te (fun K => ce_X11_normal vl K 0 x x' y) (fun r => r.1 = 1 ∧ noB (y.2.1 15) x ∨ ∃ b n l w, brW y x b n l w ∧ (r.1 = 2 ∧ (x' < 0 ∨ ¬ x' ≤ 3) ∨ r.1 = 0 ∧ ¬ x' < 0 ∧ x' ≤ 3 ∧ ∃ F j, nfL n F ∧ eqT n (foT n w l).1 (List.replicate j (gNN n - 1) ++ F) ∧ r.2.1 = nvN x' n l (iI ((foT n w l).2 + (j : Nat))) F.length)) := by
  refine e_X11_normal ?_; unfold cm_X11_normal_0
  refine w_tc0 (tc_needBraid (brC_E hB)) ?_ ?_
  · rintro y1 ⟨h1, rfl⟩
    rcases h1 with ⟨-, hb⟩ | h1
    · obtain ⟨b, n, l, hb20, rfl, hn2, hn5, e15, l16, e14, hwd⟩ := isB_w hB hb
      obtain ⟨w, hw⟩ := wd_w hwd
      have hW : brW y1 (nI b) b n l w := ⟨hb20, rfl, hn2, hn5, e15, l16, e14, hw⟩
      refine w_if (fun f0 => w_some (Or.inr ⟨b, n, l, w, hW, Or.inl ⟨rfl, Or.inl f0⟩⟩)) (fun f0 => w_if (fun f3 => w_cs0 (xc_writeF fo46 hn2 hn5 hb20 e15 l16 e14 hw) ?_) (fun f3 => w_some (Or.inr ⟨b, n, l, w, hW, Or.inl ⟨rfl, Or.inr f3⟩⟩)))
      rintro y2 ⟨F, j, g1, g3, g4, g5, g2⟩
      have q14 : y2.2.1 14 b = nI l := (congrFun (g2 14 (by unfold foP; omega)).2.1 b).trans e14
      have q15 : y2.2.1 15 b = nI n := (congrFun (g2 15 (by unfold foP; omega)).2.1 b).trans e15
      have fin : ∀ v, v = nvN x' n l (iI ((foT n w l).2 + (j : Nat))) F.length → Tt (fun _ _ => some ((0 : Nat), v, y2)) (fun r => r.1 = 1 ∧ noB (y1.2.1 15) (nI b) ∨ ∃ b' n l w, brW y1 (nI b) b' n l w ∧ (r.1 = 2 ∧ (x' < 0 ∨ ¬ x' ≤ 3) ∨ r.1 = 0 ∧ ¬ x' < 0 ∧ x' ≤ 3 ∧ ∃ F j, nfL n F ∧ eqT n (foT n w l).1 (List.replicate j (gNN n - 1) ++ F) ∧ r.2.1 = nvN x' n l (iI ((foT n w l).2 + (j : Nat))) F.length)) := fun v hv => w_some (Or.inr ⟨b, n, l, w, hW, Or.inr ⟨rfl, f0, f3, F, j, g3, g5, hv⟩⟩)
      rcases five f0 (Int32.le_trans f3 (by decide)) with h | h | h | h | h | h
      · subst h
        exact w_ifF (by decide) (w_ifT rfl (w_rdF g1.2.1 (fin _ rfl)))
      · subst h
        exact w_ifF (by decide) (w_ifF (by decide) (w_ifT rfl (w_rdF (fo_len g1).1 (fin _ rfl))))
      · subst h
        exact w_ifF (by decide) (w_ifF (by decide) (w_ifF (by decide) (w_ifT rfl (w_crI ch_14 rfl hb20 q14 (fin _ rfl)))))
      · subst h
        exact w_ifT (by decide) (w_crI ch_15 rfl hb20 q15 (fin _ rfl))
      · rw [h] at f3
        exact absurd f3 (by decide)
      · rw [h] at f3
        exact absurd f3 (by decide)
    · exact absurd (show (0 : Nat) = 1 from h1.1) (by decide)
  · rintro a y1 ha ⟨h1, rfl⟩
    rcases h1 with h1 | h1
    · exact absurd h1.1 ha
    · exact w_some (Or.inl ⟨h1.1, h1.2⟩)
theorem xq_normal (h : gI X z) (hG : ∀ W, X W → XG W) : Te (fun K => qe_X13_normal K x x' z) (fun r => (r.2.1 1 = nI 1 ∧ noB (z.2.1 96) x ∨ ∃ b n l, b < 20 ∧ x = nI b ∧ hBr z b n l ∧ (r.2.1 1 = nI 2 ∧ (x' < 0 ∨ ¬ x' ≤ 3) ∨ r.2.1 1 = 0 ∧ ¬ x' < 0 ∧ x' ≤ 3))) := by
  have h1 := gI_1 (c := 0) h
  let Q : Int32 × ow_MS → Prop := fun r => (r.2.1 1 = nI 1 ∧ noB (z.2.1 96) x ∨ ∃ b n l, b < 20 ∧ x = nI b ∧ hBr z b n l ∧ (r.2.1 1 = nI 2 ∧ (x' < 0 ∨ ¬ x' ≤ 3) ∨ r.2.1 1 = 0 ∧ ¬ x' < 0 ∧ x' ≤ 3))
  refine e_X13_normal ?_
  refine u_X13_normal_0 ?_; unfold qm_X13_normal_0
  refine w_wrF (w_hasBX h1.2.2.2.2.2.1 (fun h0 => w_ifT rfl (w_mono (w_failX (k := 1) h1 fr_1) (fun r hr => Or.inl ⟨hr.2.1, h0⟩))) (fun b n l hc hx hh => w_ifF (by decide) ?_))
  have c1 : (x' < 0 ∨ ¬ x' ≤ 3) → Tt (fun K i => q_X13_normal K i 1 x x' (usF z 1 0)) Q := by
    intro hv
    refine u_X13_normal_1 ?_; unfold qm_X13_normal_1
    exact w_mono (w_failX (k := 2) h1 fr_1) (fun r hr => Or.inr ⟨b, n, l, hc, hx, hh, Or.inl ⟨hr.2.1, hv⟩⟩)
  have fin : ∀ (v : Int32) (y : ow_MS), y.1 1 = 0 → ¬ x' < 0 → x' ≤ 3 → Tt (fun _ _ => some (v, y)) Q := fun v y e f0 f3 => w_some (Or.inr ⟨b, n, l, hc, hx, hh, Or.inr ⟨e, f0, f3⟩⟩)
  subst hx
  refine w_if (fun f0 => c1 (Or.inl f0)) (fun f0 => w_if (fun f3 => w_if (fun _ => w_rdI ml95 rfl (by omega) rfl (fin _ _ po_usF_at f0 f3)) (fun _ => w_if (fun _ => w_rdI ml96 rfl (by omega) rfl (fin _ _ po_usF_at f0 f3)) (fun _ => w_cs0 (tp_formOf hc hh (gI_tb hG h1)) (fun y ⟨_, f1⟩ => ?_)))) (fun f3 => c1 (Or.inr f3)))
  have e1 : y.1 1 = 0 := (f1 1 (by unfold nmH; omega)).1.trans po_usF_at
  exact w_if (fun _ => w_rdF rfl (fin _ _ e1 f0 f3)) (fun _ => w_rdF rfl (fin _ _ e1 f0 f3))
theorem xr_normal {b n l : Nat} {w : Nat → Nat × Bool} {F : List Nat} {j : Nat} (h : gI X z) (hG : ∀ W, X W → XG W) (hb : b < 20) (hh : hBr z b n l) (hwd : ∀ i, i < l → (w i).1 + 1 < n ∧ z.2.1 94 (16 * b + i) = lx9 (w i)) (hF : nfL n F) (he : eqT n (foT n w l).1 (List.replicate j (gNN n - 1) ++ F)) (f0 : ¬ x' < 0) (f3 : x' ≤ 3) : Te (fun K => qe_X13_normal K (nI b) x' z) (fun r => r.1 = nvN x' n l (iI ((foT n w l).2 + (j : Nat))) F.length) := by
  have h1 := gI_1 (c := 0) h
  refine e_X13_normal ?_
  refine u_X13_normal_0 ?_; unfold qm_X13_normal_0
  refine w_wrF (w_hasBX h1.2.2.2.2.2.1 (fun h0 => ?_) (fun b' n' l' hc hx hh' => w_ifF (by decide) ?_))
  · exfalso
    have := h0 b hb rfl
    have e96 : (usF z 1 0).2.1 96 b = nI n := hh.2.2.2.1
    rw [e96] at this
    exact nI_ne0 (by have := hh.1; omega) (by have := hh.2.1; omega) this
  · have e95 : (usF z 1 0).2.1 95 b = nI l := hh.2.2.2.2.1
    have e96 : (usF z 1 0).2.1 96 b = nI n := hh.2.2.2.1
    have fo := xr_formOf (z := usF z 1 0) hb hh (gI_tb hG h1) hwd hF he
    rcases five f0 (Int32.le_trans f3 (by decide)) with h | h | h | h | h | h
    · subst h
      exact w_ifF (by decide) (w_ifT (by decide) (w_ifF (by decide) (w_ifF (by decide) (w_cs0 fo (fun y1 ⟨k1, k2⟩ => w_ifT rfl (w_rdF k2 (w_some rfl)))))))
    · subst h
      exact w_ifF (by decide) (w_ifT (by decide) (w_ifF (by decide) (w_ifF (by decide) (w_cs0 fo (fun y1 ⟨k1, k2⟩ => w_ifF (by decide) (w_rdF k1.1.1 (w_some rfl)))))))
    · subst h
      exact w_ifF (by decide) (w_ifT (by decide) (w_ifT rfl (w_rdI ml95 rfl (by omega) e95 (w_some rfl))))
    · subst h
      exact w_ifF (by decide) (w_ifT (by decide) (w_ifF (by decide) (w_ifT rfl (w_rdI ml96 rfl (by omega) e96 (w_some rfl)))))
    · rw [h] at f3
      exact absurd f3 (by decide)
    · rw [h] at f3
      exact absurd f3 (by decide)
theorem c_normal (hG : ∀ W, X W → XG W) (h : rel3 X z y) : Te (fun K => qe_X13_normal K x x' z) (fun rr => Te (fun K => ce_X11_normal vl K 0 x x' y) (fun rc => rel3 X rr.2 rc.2.2 ∧ ansI [(1, 1), (2, 2)] rr rc)) := by
  have hI := r3_g h
  have hB := h.2.2.2.2.1
  have hR := h.2.2.2.1
  have ref := te_all (α := Nat × Nat × Nat × (Nat → Nat × Bool) × List Nat × Nat) (H := fun a => a.1 < 20 ∧ x = nI a.1 ∧ hBr z a.1 a.2.1 a.2.2.1 ∧ (∀ i, i < a.2.2.1 → (a.2.2.2.1 i).1 + 1 < a.2.1 ∧ z.2.1 94 (16 * a.1 + i) = lx9 (a.2.2.2.1 i)) ∧ nfL a.2.1 a.2.2.2.2.1 ∧ eqT a.2.1 (foT a.2.1 a.2.2.2.1 a.2.2.1).1 (List.replicate a.2.2.2.2.2 (gNN a.2.1 - 1) ++ a.2.2.2.2.1) ∧ ¬ x' < 0 ∧ x' ≤ 3) (R := fun a r => r.1 = nvN x' a.2.1 a.2.2.1 (iI ((foT a.2.1 a.2.2.2.1 a.2.2.1).2 + (a.2.2.2.2.2 : Nat))) a.2.2.2.2.1.length) (te_fo (te_and (tp_normal (b := x) (w := x') hG hI) (xq_normal (x := x) (x' := x') hI hG)) (fun K => ff_X13_normal)) (fun a ⟨a1, a2, a3, a4, a5, a6, a7, a8⟩ => by
    rw [a2]
    exact xr_normal hI hG a1 a3 a4 a5 a6 a7 a8)
  refine te_two ref (te_fo (xc_normal (x := x) (x' := x') hB) (fun K => ff_X11_normal)) (fun rr rc ⟨⟨⟨hgI, hr⟩, fR⟩, hall⟩ ⟨hc, fC⟩ => ⟨rel3_nf fR fC (pf_nf (by decide)) (fun g hg => by omega) hgI h, ?_⟩)
  rcases hr with ⟨r1, r2⟩ | ⟨b, n, l, hb, hx, hh, hr⟩
  · rcases hc with ⟨c1, -⟩ | ⟨b, n, l, w, ⟨w1, w2, w3, w4, w5, -⟩, -⟩
    · exact Or.inr ⟨1, 1, by simp, r1, c1⟩
    · have := r2 b w1 w2
      rw [(hR b w1).1, w5] at this
      exact absurd this (nI_ne0 (by omega) (by omega))
  · rcases hc with ⟨c1, c2⟩ | ⟨b', n', l', w, ⟨w1, w2, w3, w4, w5, w6, w7, w8⟩, hc⟩
    · have := c2 b hb hx
      rw [← (hR b hb).1, hh.2.2.2.1] at this
      exact absurd this (nI_ne0 (by have := hh.1; omega) (by have := hh.2.1; omega))
    · have eb := nI_inj9 (a := b) (b := b') (by omega) (by omega) (hx.symm.trans w2)
      subst eb
      have e96 := (hR b hb).1
      have en : n = n' := nI_inj9 (by have := hh.2.1; omega) (by omega) (hh.2.2.2.1.symm.trans (e96.trans w5))
      subst en
      have hne : z.2.1 96 b ≠ 0 := by
        rw [hh.2.2.2.1]
        exact nI_ne0 (by omega) (by omega)
      obtain ⟨k1, k2⟩ := (hR b hb).2 hne
      have el : l = l' := nI_inj9 (by have := hh.2.2.1; omega) (by omega) (hh.2.2.2.2.1.symm.trans (k1.trans w7))
      subst el
      have hwz : ∀ i, i < l → (w i).1 + 1 < n ∧ z.2.1 94 (16 * b + i) = lx9 (w i) := fun i hi => ⟨(w8 i hi).1, by rw [k2 l w6 hh.2.2.2.2.1 i hi]; exact (w8 i hi).2⟩
      rcases hr with ⟨r1, r2⟩ | ⟨r1, f0, f3⟩
      · rcases hc with ⟨c1, -⟩ | ⟨-, c2, c3, -⟩
        · exact Or.inr ⟨2, 2, by simp, r1, c1⟩
        · rcases r2 with r2 | r2
          · exact absurd r2 c2
          · exact absurd c3 r2
      · rcases hc with ⟨-, c2⟩ | ⟨c1, -, -, F, j, c4, c5, c6⟩
        · rcases c2 with c2 | c2
          · exact absurd c2 f0
          · exact absurd f3 c2
        · refine Or.inl ⟨r1, c1, ?_⟩
          rw [c6]
          exact hall (b, n, l, w, F, j) ⟨hb, hx, hh, hwz, c4, c5, f0, f3⟩
end NFA
end
section
/-! 99zzzzzzzzzzzzzzc.xnf9 -/
/-! factor and equal answer the same -/
section NFB
variable {X : (Nat → Nat → Int32) → Prop} {z y : ow_MS} {vl : Nat → Nat} {x x' x3 : Int32}
/-- the same braid on both sides -/
theorem br_same {b n l b' n' l' : Nat} {w : Nat → Nat × Bool} (hR : relB z y) (hb : b < 20) (hx : x = nI b) (hh : hBr z b n l) (hW : brW y x b' n' l' w) : b' = b ∧ n' = n ∧ l' = l ∧ ∀ i, i < l → (w i).1 + 1 < n ∧ z.2.1 94 (16 * b + i) = lx9 (w i) := by
  obtain ⟨w1, w2, w3, w4, w5, w6, w7, w8⟩ := hW
  have eb := nI_inj9 (a := b) (b := b') (by omega) (by omega) (hx.symm.trans w2)
  subst eb
  have e96 := (hR b hb).1
  have en : n = n' := nI_inj9 (by have := hh.2.1; omega) (by omega) (hh.2.2.2.1.symm.trans (e96.trans w5))
  subst en
  have hne : z.2.1 96 b ≠ 0 := by
    rw [hh.2.2.2.1]
    exact nI_ne0 (by omega) (by omega)
  obtain ⟨k1, k2⟩ := (hR b hb).2 hne
  have el : l = l' := nI_inj9 (by have := hh.2.2.1; omega) (by omega) (hh.2.2.2.2.1.symm.trans (k1.trans w7))
  subst el
  exact ⟨rfl, rfl, rfl, fun i hi => ⟨(w8 i hi).1, by rw [k2 l w6 hh.2.2.2.2.1 i hi]; exact (w8 i hi).2⟩⟩
def fvN (n : Nat) (F : List Nat) (x' x3 : Int32) : Int32 := if x' < 1 then -1 else if nI F.length < x' then -1 else if x3 < 0 then -1 else if x3 < nI n then nI (enG n (F.getD (x'.toNatClampNeg - 1) 0) x3.toNatClampNeg) else -1
/-- the ends of simple ones in the reference -/
def enW (z : ow_MS) : Prop := ∀ n s j, 2 ≤ n → n ≤ 5 → s < gNN n → j < n → z.2.1 98 (5 * (120 * n + s) + j) = nI (enG n s j)
theorem xc_factor (hB : brC y) : Te (fun K => ce_X11_factor vl K 0 x x' x3 y) (fun r => r.1 = 1 ∧ noB (y.2.1 15) x ∨ ∃ b n l w, brW y x b n l w ∧ r.1 = 0 ∧ ∃ F j, nfL n F ∧ F.length ≤ l ∧ eqT n (foT n w l).1 (List.replicate j (gNN n - 1) ++ F) ∧ r.2.1 = fvN n F x' x3) := by
  refine e_X11_factor ?_; unfold cm_X11_factor_0
  refine w_tc0 (tc_needBraid (brC_E hB)) ?_ ?_
  · rintro y1 ⟨h1, rfl⟩
    rcases h1 with ⟨-, hb⟩ | h1
    · obtain ⟨b, n, l, hb20, rfl, hn2, hn5, e15, l16, e14, hwd⟩ := isB_w hB hb
      obtain ⟨w, hw⟩ := wd_w hwd
      have hW : brW y1 (nI b) b n l w := ⟨hb20, rfl, hn2, hn5, e15, l16, e14, hw⟩
      refine w_cs0 (xc_writeF fo46 hn2 hn5 hb20 e15 l16 e14 hw) ?_
      rintro y2 ⟨F, j, g1, g3, g4, g5, g2⟩
      have q15 : y2.2.1 15 b = nI n := (congrFun (g2 15 (by unfold foP; omega)).2.1 b).trans e15
      have fin : ∀ v, v = fvN n F x' x3 → Tt (fun _ _ => some ((0 : Nat), v, y2)) (fun r => r.1 = 1 ∧ noB (y1.2.1 15) (nI b) ∨ ∃ b' n l w, brW y1 (nI b) b' n l w ∧ r.1 = 0 ∧ ∃ F j, nfL n F ∧ F.length ≤ l ∧ eqT n (foT n w l).1 (List.replicate j (gNN n - 1) ++ F) ∧ r.2.1 = fvN n F x' x3) := fun v hv => w_some (Or.inr ⟨b, n, l, w, hW, rfl, F, j, g3, g4, g5, hv⟩)
      refine w_if (fun f1 => fin _ (by unfold fvN; rw [if_pos f1])) (fun f1 => w_rdF (fo_len g1).1 (w_if (fun f4 => fin _ (by unfold fvN; rw [if_neg f1, if_pos f4])) (fun f4 => w_if (fun f5 => fin _ (by unfold fvN; rw [if_neg f1, if_neg f4, if_pos f5])) (fun f5 => w_crI ch_15 rfl hb20 q15 (w_if (fun f6 => ?_) (fun f6 => fin _ (by unfold fvN; rw [if_neg f1, if_neg f4, if_neg f5, if_neg f6])))))))
      have h0 : ¬ x' < 0 := fun h9 => f1 (Int32.lt_trans h9 (by decide))
      obtain ⟨k, k31, rfl⟩ := nI_of h0
      obtain ⟨j3, j31, rfl⟩ := nI_of f5
      have k1 : 1 ≤ k := by
        apply Nat.le_of_not_lt
        exact fun h9 => f1 (nI_lt (b := 1) h9 (by omega))
      have k2 : k ≤ F.length := by
        apply Nat.le_of_not_lt
        exact fun h9 => f4 (nI_lt h9 k31)
      have j3n : j3 < n := by
        apply Nat.lt_of_not_le
        intro h9
        have := (nI_ltI j31 (by omega)).mp f6
        omega
      have hk : k - 1 < F.length := by omega
      have eF : F[k - 1]? = some F[k - 1] := List.getElem?_eq_getElem hk
      rw [show nI k - 1 = nI (k - 1) from pk_sub (b := 1) k1]
      refine w_crI (fO_4 fo46) rfl (show k - 1 < 24 by omega) (fo_rd g1 eF) (w_cs1 tc_image ?_)
      rintro v z ⟨e1, e2⟩
      dsimp only at e1 e2
      rw [e2, e1, d_qj hn2 hn5 (g3.1 _ (List.getElem_mem hk)) j3n]
      refine fin _ ?_
      unfold fvN
      rw [if_neg f1, if_neg f4, if_neg f5, if_pos f6, nI_clamp k31, nI_clamp j31, List.getD_eq_getElem?_getD, eF]
      rfl
    · exact absurd (show (0 : Nat) = 1 from h1.1) (by decide)
  · rintro a y1 ha ⟨h1, rfl⟩
    rcases h1 with h1 | h1
    · exact absurd h1.1 ha
    · exact w_some (Or.inl ⟨h1.1, h1.2⟩)
theorem xq_factor (h : gI X z) (hG : ∀ W, X W → XG W) : Te (fun K => qe_X13_factor K x x' x3 z) (fun r => r.2.1 1 = nI 1 ∧ noB (z.2.1 96) x ∨ ∃ b n l, b < 20 ∧ x = nI b ∧ hBr z b n l ∧ ∀ w F j, (∀ i, i < l → (w i).1 + 1 < n ∧ z.2.1 94 (16 * b + i) = lx9 (w i)) → nfL n F → F.length ≤ l → eqT n (foT n w l).1 (List.replicate j (gNN n - 1) ++ F) → enW z → r.2.1 1 = 0 ∧ r.1 = fvN n F x' x3) := by
  have h1 := gI_1 (c := 0) h
  let Q : Int32 × ow_MS → Prop := fun r => r.2.1 1 = nI 1 ∧ noB (z.2.1 96) x ∨ ∃ b n l, b < 20 ∧ x = nI b ∧ hBr z b n l ∧ ∀ w F j, (∀ i, i < l → (w i).1 + 1 < n ∧ z.2.1 94 (16 * b + i) = lx9 (w i)) → nfL n F → F.length ≤ l → eqT n (foT n w l).1 (List.replicate j (gNN n - 1) ++ F) → enW z → r.2.1 1 = 0 ∧ r.1 = fvN n F x' x3
  refine e_X13_factor ?_
  refine u_X13_factor_0 ?_; unfold qm_X13_factor_0
  refine w_wrF (w_hasBX h1.2.2.2.2.2.1 (fun h0 => w_ifT rfl (w_mono (w_failX (k := 1) h1 fr_1) (fun r hr => Or.inl ⟨hr.2.1, h0⟩))) (fun b n l hc hx hh => w_ifF (by decide) ?_))
  subst hx
  have h2 := hh.1
  have h5 := hh.2.1
  have hl16 := hh.2.2.1
  have fo := te_all (α := (Nat → Nat × Bool) × List Nat × Nat) (H := fun a => (∀ i, i < l → (a.1 i).1 + 1 < n ∧ z.2.1 94 (16 * b + i) = lx9 (a.1 i)) ∧ nfL n a.2.1 ∧ eqT n (foT n a.1 l).1 (List.replicate a.2.2 (gNN n - 1) ++ a.2.1)) (R := fun a z1 => fmI z1 n a.2.1 ∧ z1.1 112 = iI ((foT n a.1 l).2 + (a.2.2 : Nat))) (tp_formOf (z := usF z 1 0) hc hh (gI_tb hG h1)) (fun a ⟨a1, a2, a3⟩ => xr_formOf (z := usF z 1 0) hc hh (gI_tb hG h1) a1 a2 a3)
  refine w_cs0 fo (fun y1 ⟨⟨⟨S, κ, f1, f2, _⟩, f3⟩, hall⟩ => ?_)
  have e1 : y1.1 1 = 0 := (f3 1 (by unfold nmH; omega)).1.trans po_usF_at
  have e96 : y1.2.1 96 b = nI n := by rw [(f3 96 (by unfold nmH; omega)).2.1]; exact hh.2.2.2.1
  have e98 : y1.2.1 98 = z.2.1 98 := (f3 98 (by unfold nmH; omega)).2.1
  have hN := nn_pos (n := n)
  have fin : ∀ v, (∀ F, nfL n F → fmI y1 n F → F.length ≤ l → enW z → v = fvN n F x' x3) → Tt (fun _ _ => some (v, y1)) Q := fun v hv => w_some (Or.inr ⟨b, n, l, hc, rfl, hh, fun w F j k1 k2 k3 k4 k5 => ⟨e1, hv F k2 (hall (w, F, j) ⟨k1, k2, k4⟩).1 k3 k5⟩⟩)
  have c1 : (∀ F, nfL n F → fmI y1 n F → F.length ≤ l → -1 = fvN n F x' x3) → Tt (fun K i => q_X13_factor K i 1 (nI b) x' x3 y1) Q := by
    intro hv
    refine u_X13_factor_1 ?_; unfold qm_X13_factor_1
    exact fin _ (fun F a1 a2 a3 _ => hv F a1 a2 a3)
  refine w_if (fun f1 => c1 (fun F _ _ _ => by unfold fvN; rw [if_pos f1])) (fun hi1 => ?_)
  obtain ⟨i', hi31, rfl⟩ := nI_of (x := x') (fun h9 => hi1 (Int32.lt_trans h9 (by decide)))
  have hi0 : 1 ≤ i' := by
    apply Nat.le_of_not_lt
    exact fun h9 => hi1 (nI_lt (b := 1) h9 (by omega))
  have key : ∀ F, fmI y1 n F → F.length ≤ l → F.length = S.length := fun F hF hFl => nI_inj9 (by omega) (by omega) (hF.1.1.symm.trans f1.1.1)
  refine w_rdF f1.1.1 (w_if (fun f4 => c1 (fun F _ hF hFl => by unfold fvN; rw [if_neg hi1, key F hF hFl, if_pos f4])) (fun f4 => w_if (fun f5 => c1 (fun F _ hF hFl => by unfold fvN; rw [if_neg hi1, key F hF hFl, if_neg f4, if_pos f5])) (fun f5 => ?_)))
  obtain ⟨j', hj31, rfl⟩ := nI_of f5
  refine w_rdI ml96 rfl (by omega) e96 (w_if (fun f6 => w_rdI ml96 rfl (by omega) e96 ?_) (fun f6 => c1 (fun F _ hF hFl => by unfold fvN; rw [if_neg hi1, key F hF hFl, if_neg f4, if_neg f5, if_neg f6])))
  have hjn : j' < n := by
    apply Nat.lt_of_not_le
    intro h9
    have := (nI_ltI hj31 (by omega)).mp f6
    omega
  have hil : i' - 1 < S.length := by
    have : i' ≤ S.length := by
      apply Nat.le_of_not_lt
      exact fun h9 => f4 (nI_lt h9 hi31)
    omega
  have hs := f1.2 _ (List.getElem_mem hil)
  have eS : y1.2.1 114 (i' - 1) = nI S[i' - 1] := f1.1.2 _ _ (List.getElem?_eq_getElem hil)
  rw [show nI i' - 1 = nI (i' - 1) from pk_sub (b := 1) hi0]
  refine w_rdI ml114 rfl (by omega) eS ?_
  generalize S[i' - 1] = s at hs eS
  refine w_rdI (i := 5 * (120 * n + s) + j') ml98 (by rw [ix120, show (5 : Int32) * nI (120 * n + s) = nI (5 * (120 * n + s)) from pk_mul 5 _, nI_add]) (by omega) rfl (fin _ (fun F a1 a2 a3 a4 => ?_))
  have eF := key F a2 a3
  have hk : i' - 1 < F.length := by omega
  have e9 := a2.1.2 _ _ (List.getElem?_eq_getElem hk)
  have hb9 := a1.1 _ (List.getElem_mem hk)
  have es : F[i' - 1] = s := nI_inj9 (by omega) (by omega) (e9.symm.trans eS)
  unfold fvN
  rw [if_neg hi1, eF, if_neg f4, if_neg f5, if_pos f6, nI_clamp hi31, nI_clamp hj31, List.getD_eq_getElem?_getD, List.getElem?_eq_getElem hk, es, e98]
  exact a4 n s j' h2 h5 hs hjn
theorem c_factor (hG : ∀ W, X W → XG W) (h : rel3 X z y) (hE : enW z) : Te (fun K => qe_X13_factor K x x' x3 z) (fun rr => Te (fun K => ce_X11_factor vl K 0 x x' x3 y) (fun rc => rel3 X rr.2 rc.2.2 ∧ ansI [(1, 1)] rr rc)) := by
  have hI := r3_g h
  have hB := h.2.2.2.2.1
  have hR := h.2.2.2.1
  refine te_two (te_fo (te_and (tp_factor (b := x) (i := x') (j := x3) hG hI) (xq_factor (x := x) (x' := x') (x3 := x3) hI hG)) (fun K => ff_X13_factor)) (te_fo (xc_factor (x := x) (x' := x') (x3 := x3) hB) (fun K => ff_X11_factor)) (fun rr rc ⟨⟨hgI, hr⟩, fR⟩ ⟨hc, fC⟩ => ⟨rel3_nf fR fC (pf_nf (by decide)) (fun g hg => by omega) hgI h, ?_⟩)
  rcases hr with ⟨r1, r2⟩ | ⟨b, n, l, hb, hx, hh, hr⟩
  · rcases hc with ⟨c1, -⟩ | ⟨b, n, l, w, ⟨w1, w2, w3, w4, w5, -⟩, -⟩
    · exact Or.inr ⟨1, 1, by simp, r1, c1⟩
    · have := r2 b w1 w2
      rw [(hR b w1).1, w5] at this
      exact absurd this (nI_ne0 (by omega) (by omega))
  · rcases hc with ⟨c1, c2⟩ | ⟨b', n', l', w, hW, c1, F, j, c2, c3, c4, c5⟩
    · have := c2 b hb hx
      rw [← (hR b hb).1, hh.2.2.2.1] at this
      exact absurd this (nI_ne0 (by have := hh.1; omega) (by have := hh.2.1; omega))
    · obtain ⟨rfl, rfl, rfl, hwz⟩ := br_same hR hb hx hh hW
      obtain ⟨k1, k2⟩ := hr w F j hwz c2 c3 c4 hE
      exact Or.inl ⟨k1, c1, k2.trans c5.symm⟩
end NFB
end
section
/-! 99zzzzzzzzzzzzzzd.xnf10 -/
/-! equal answers the same -/
section NFC
variable {X : (Nat → Nat → Int32) → Prop} {z y : ow_MS} {vl : Nat → Nat} {x x' : Int32} {n : Nat}
theorem fo_fr {P : Nat → Prop} {y1 : ow_MS} {h : Nat} {κ : Int32} {L : List Int32} (hf : fr P y y1) (hP : ∀ g, foP h g → ¬ P g) (h0 : foA y h n κ L) : foA y1 h n κ L := by
  obtain ⟨a1, a2, a3, a4, a5, a6, a7⟩ := h0
  have k : ∀ g, foP h g → y1.1 g = y.1 g ∧ y1.2.1 g = y.2.1 g := fun g hg => ⟨(hf g (hP g hg)).1, (hf g (hP g hg)).2.1⟩
  refine ⟨(k _ (by unfold foP; omega)).1.trans a1, (k _ (by unfold foP; omega)).1.trans a2, (k _ (by unfold foP; omega)).1.trans a3, a4, fun i a e => ?_, (k _ (by unfold foP; omega)).1.trans a6, (k _ (by unfold foP; omega)).1.trans a7⟩
  rw [(k (h + 4) (by unfold foP; omega)).2]
  exact a5 i a e
theorem nn_120 : gNN n ≤ 120 := by
  unfold gNN
  split <;> (try split) <;> (try split) <;> omega
theorem fm_uni {F S : List Nat} (h : fmI z n F) (h' : fmI z n S) (l1 : F.length < 100) (l2 : S.length < 100) : F = S := by
  have el : F.length = S.length := nI_inj9 (by omega) (by omega) (h.1.1.symm.trans h'.1.1)
  have bn := nn_120 (n := n)
  refine List.ext_getElem? (fun i => ?_)
  by_cases hi : i < F.length
  · have e1 : F[i]? = some F[i] := List.getElem?_eq_getElem hi
    have e2 : S[i]? = some (S[i]'(by omega)) := List.getElem?_eq_getElem (by omega)
    have b1 := h.2 _ (List.mem_of_getElem? e1)
    have b2 := h'.2 _ (List.mem_of_getElem? e2)
    rw [e1, e2]
    exact congrArg some (nI_inj9 (by omega) (by omega) ((h.1.2 i _ e1).symm.trans (h'.1.2 i _ e2)))
  · rw [List.getElem?_eq_none (by omega), List.getElem?_eq_none (by omega)]
theorem xc_sameAs {h g : Nat} {κ κ' : Int32} {F F' : List Nat} (hh : fO h) (hg : fO g) (h2 : 2 ≤ n) (h5 : n ≤ 5) (hF : okT n F) (hF' : okT n F') (h0 : foA y h n κ (F.map (pkG n))) (g0 : foA y g n κ' (F'.map (pkG n))) : Te (fun K => ce_X5_sameAs vl K h g y) (fun r => (r.1 = 1 ∧ κ = κ' ∧ F = F' ∨ r.1 = 0 ∧ ¬ (κ = κ' ∧ F = F')) ∧ r.2 = y) := by
  obtain ⟨h3, hl⟩ := fo_len h0
  obtain ⟨g3, gl⟩ := fo_len g0
  let Q : Int32 × ow_MS → Prop := fun r => (r.1 = 1 ∧ κ = κ' ∧ F = F' ∨ r.1 = 0 ∧ ¬ (κ = κ' ∧ F = F')) ∧ r.2 = y
  have no : ¬ (κ = κ' ∧ F = F') → Tt (fun _ _ => okZ 0 (some ((0 : Int32), y))) Q := fun hn => w_okZ (Or.inl rfl) (w_some ⟨Or.inr ⟨rfl, hn⟩, rfl⟩)
  have c1 : ∀ (d j : Nat), j + d = F.length → F.length = F'.length → κ = κ' → (∀ i, i < j → F[i]? = F'[i]?) → Tt (fun K t => c_X5_sameAs vl K t 1 (nI j) h g y) Q := by
    intro d
    induction d with
    | zero =>
      intro j hj el ek hp
      refine u_X5_sameAs_1 ?_; unfold cm_X5_sameAs_1
      refine w_rdF h3 (w_leT (by omega) (by omega) (w_okZ (Or.inr rfl) (w_some ⟨Or.inl ⟨rfl, ek, List.ext_getElem? (fun i => ?_)⟩, rfl⟩)))
      by_cases hi : i < j
      · exact hp i hi
      · rw [List.getElem?_eq_none (by omega), List.getElem?_eq_none (by omega)]
    | succ d ih =>
      intro j hj el ek hp
      have l1 : j < F.length := by omega
      have l2 : j < F'.length := by omega
      have e1 : F[j]? = some F[j] := List.getElem?_eq_getElem l1
      have e2 : F'[j]? = some F'[j] := List.getElem?_eq_getElem l2
      refine u_X5_sameAs_1 ?_; unfold cm_X5_sameAs_1
      rw [nI_1]
      refine w_rdF h3 (w_leF (by omega) (by omega) (w_crI (fO_4 hh) rfl (show j < 24 by omega) (fo_rd h0 e1) (w_crI (fO_4 hg) rfl (show j < 24 by omega) (fo_rd g0 e2) (w_if (fun e => ih (j + 1) (by omega) el ek (fun i hi => ?_)) (fun e => no (fun h9 => e ?_))))))
      · by_cases c : i = j
        · rw [c, e1, e2, d_qi h2 h5 (hF _ (List.getElem_mem l1)) (hF' _ (List.getElem_mem l2)) e]
        · exact hp i (by omega)
      · have e3 : F[j]? = F'[j]? := by rw [h9.2]
        rw [e1, e2] at e3
        rw [Option.some.inj e3]
  refine e_X5_sameAs ?_
  refine u_X5_sameAs_0 ?_; unfold cm_X5_sameAs_0
  refine w_rdF h0.1 (w_rdF g0.1 (w_ifT rfl (w_rdF h0.2.1 (w_rdF g0.2.1 (w_if (fun ek => w_rdF h3 (w_rdF g3 (w_eqN (by omega) (by omega) (fun el => c1 F.length 0 (by omega) el ek (fun i hi => absurd hi (Nat.not_lt_zero _))) (fun el => no (fun h9 => el ?_))))) (fun ek => no (fun h9 => ek h9.1)))))))
  rw [h9.2]
theorem xc_equal (hB : brC y) : Te (fun K => ce_X11_equal vl K 0 x x' y) (fun r => r.1 = 0 ∧ (noB (y.2.1 15) x ∨ noB (y.2.1 15) x') ∨ ∃ b n l w b' n' l' w', brW y x b n l w ∧ brW y x' b' n' l' w' ∧ (n ≠ n' ∧ r.1 = 0 ∨ n = n' ∧ ∃ F j F' j', nfL n F ∧ F.length ≤ l ∧ eqT n (foT n w l).1 (List.replicate j (gNN n - 1) ++ F) ∧ nfL n F' ∧ F'.length ≤ l' ∧ eqT n (foT n w' l').1 (List.replicate j' (gNN n - 1) ++ F') ∧ (r.1 = 1 ∧ iI ((foT n w l).2 + (j : Nat)) = iI ((foT n w' l').2 + (j' : Nat)) ∧ F = F' ∨ r.1 = 0 ∧ ¬ (iI ((foT n w l).2 + (j : Nat)) = iI ((foT n w' l').2 + (j' : Nat)) ∧ F = F')))) := by
  refine e_X11_equal ?_; unfold cm_X11_equal_0
  refine w_cs1 (tc_hasBraid (brC_E hB)) ?_
  rintro v y1 ⟨h1, e1⟩
  dsimp only at h1 e1
  rw [e1]
  rcases h1 with ⟨rfl, hb⟩ | ⟨rfl, hn1⟩
  · refine w_ifF (by decide) (w_cs1 (tc_hasBraid (brC_E hB)) ?_)
    rintro v2 y2 ⟨h2, e2⟩
    dsimp only at h2 e2
    rw [e2]
    rcases h2 with ⟨rfl, hb'⟩ | ⟨rfl, hn2⟩
    · obtain ⟨b, n, l, hb20, rfl, hn2, hn5, e15, l16, e14, hwd⟩ := isB_w hB hb
      obtain ⟨b', n', l', hb20', rfl, hn2', hn5', e15', l16', e14', hwd'⟩ := isB_w hB hb'
      obtain ⟨w, hw⟩ := wd_w hwd
      obtain ⟨w', hw'⟩ := wd_w hwd'
      have hW : brW y (nI b) b n l w := ⟨hb20, rfl, hn2, hn5, e15, l16, e14, hw⟩
      have hW' : brW y (nI b') b' n' l' w' := ⟨hb20', rfl, hn2', hn5', e15', l16', e14', hw'⟩
      refine w_ifF (by decide) (w_crI ch_15 rfl hb20 e15 (w_crI ch_15 rfl hb20' e15' (w_eqN (by omega) (by omega) (fun en => ?_) (fun en => w_okZ (Or.inl rfl) (w_some (Or.inr ⟨b, n, l, w, b', n', l', w', hW, hW', Or.inl ⟨en, rfl⟩⟩))))))
      subst en
      refine w_cs0 (xc_writeF fo46 hn2 hn5 hb20 e15 l16 e14 hw) ?_
      rintro y3 ⟨F, j, g1, g3, g4, g5, g2⟩
      have q13 : y3.2.1 13 = y.2.1 13 := (g2 13 (by unfold foP; omega)).2.1
      refine w_cs0 (xc_writeF (n := n) (l := l') (w := w') fo47 hn2' hn5' hb20' ((congrFun (g2 15 (by unfold foP; omega)).2.1 b').trans e15') l16' ((congrFun (g2 14 (by unfold foP; omega)).2.1 b').trans e14') (fun i hi => ⟨(hw' i hi).1, by rw [q13]; exact (hw' i hi).2⟩)) ?_
      rintro y4 ⟨F', j', k1, k3, k4, k5, k2⟩
      have g6 := fo_fr k2 (fun g hg => by unfold foP at hg ⊢; omega) g1
      refine w_cs1 (xc_sameAs fo46 fo47 hn2 hn5 g3.1 k3.1 g6 k1) ?_
      rintro v5 y5 ⟨e5, e6⟩
      dsimp only at e5 e6
      rw [e6]
      refine w_okZ ?_ (w_some (Or.inr ⟨b, n, l, w, b', n, l', w', hW, hW', Or.inr ⟨rfl, F, j, F', j', g3, g4, g5, k3, k4, k5, e5⟩⟩))
      rcases e5 with e5 | e5
      · exact Or.inr e5.1
      · exact Or.inl e5.1
    · exact w_ifT rfl (w_okZ (Or.inl rfl) (w_some (Or.inl ⟨rfl, Or.inr hn2⟩)))
  · exact w_ifT rfl (w_okZ (Or.inl rfl) (w_some (Or.inl ⟨rfl, Or.inl hn1⟩)))
theorem xr_isForm {r0 r2 i j l0 l2 : Nat} {S S' : List Nat} {κ κ' : Int} (h0 : (mX.2 r0).2.1 = l0) (h2 : (mX.2 r2).2.1 = l2) (hl0 : l0 ≤ 8040) (hl2 : l2 ≤ 8040) (hi : i + 2 + S.length ≤ l0) (hj : j + 2 + S'.length ≤ l2) (hS : frwI z r0 i n S κ) (hS' : frwI z r2 j n S' κ') : Te (fun K => qe_X13_isForm K r0 (nI i) r2 (nI j) z) (fun r => r.2 = z ∧ (r.1 = 1 ∧ iI κ = iI κ' ∧ S = S' ∨ r.1 = 0 ∧ ¬ (iI κ = iI κ' ∧ S = S'))) := by
  let Q : Int32 × ow_MS → Prop := fun r => r.2 = z ∧ (r.1 = 1 ∧ iI κ = iI κ' ∧ S = S' ∨ r.1 = 0 ∧ ¬ (iI κ = iI κ' ∧ S = S'))
  have c30 : ∀ (x5 : Int32), ¬ (iI κ = iI κ' ∧ S = S') → Tt (fun K t => q_X13_isForm K t 3 (nI i) (nI j) 0 x5 r0 r2 0 z) Q := by
    intro x5 hn
    refine u_X13_isForm_3 ?_; unfold qm_X13_isForm_3
    exact w_ifT rfl (w_okZ (Or.inl rfl) (w_some ⟨rfl, Or.inr ⟨rfl, hn⟩⟩))
  have c3 : ∀ (d k : Nat), k + d = S.length → S.length = S'.length → iI κ = iI κ' → (∀ t, t < k → S[t]? = S'[t]?) → Tt (fun K t => q_X13_isForm K t 3 (nI i) (nI j) 1 (nI k) r0 r2 0 z) Q := by
    intro d
    induction d with
    | zero =>
      intro k hk el ek hp
      refine u_X13_isForm_3 ?_; unfold qm_X13_isForm_3
      rw [show nI i + 1 = nI (i + 1) from nI_1 _]
      refine w_ifF (by decide) (w_rdI h0 rfl (by omega) hS.2.1 (w_leT (by omega) (by omega) (w_okZ (Or.inr rfl) (w_some ⟨rfl, Or.inl ⟨rfl, ek, List.ext_getElem? (fun t => ?_)⟩⟩))))
      by_cases ht : t < k
      · exact hp t ht
      · rw [List.getElem?_eq_none (by omega), List.getElem?_eq_none (by omega)]
    | succ d ih =>
      intro k hk el ek hp
      have l1 : k < S.length := by omega
      have l2' : k < S'.length := by omega
      have e1 : S[k]? = some S[k] := List.getElem?_eq_getElem l1
      have e2 : S'[k]? = some S'[k] := List.getElem?_eq_getElem l2'
      have b1 : S[k] < gNN n := hS.2.2.2 _ (List.getElem_mem l1)
      have b2 : S'[k] < gNN n := hS'.2.2.2 _ (List.getElem_mem l2')
      have bn := nn_120 (n := n)
      refine u_X13_isForm_3 ?_; unfold qm_X13_isForm_3
      rw [show nI i + 1 = nI (i + 1) from nI_1 _, show nI i + 2 = nI (i + 2) from nI_add i 2, nI_add, show nI j + 2 = nI (j + 2) from nI_add j 2, nI_add]
      refine w_ifF (by decide) (w_rdI h0 rfl (by omega) hS.2.1 (w_leF (by omega) (by omega) (w_rdI h0 rfl (by omega) (hS.2.2.1 k _ e1) (w_rdI h2 rfl (by omega) (hS'.2.2.1 k _ e2) (w_eqN (by omega) (by omega) (fun e => ?_) (fun e => ?_))))))
      · refine u_X13_isForm_4 ?_; unfold qm_X13_isForm_4
        rw [nI_1]
        refine ih (k + 1) (by omega) el ek (fun t ht => ?_)
        by_cases c : t = k
        · rw [c, e1, e2, e]
        · exact hp t (by omega)
      · refine u_X13_isForm_4 ?_; unfold qm_X13_isForm_4
        refine c30 _ (fun h9 => e ?_)
        have e3 : S[k]? = S'[k]? := by rw [h9.2]
        rw [e1, e2] at e3
        exact Option.some.inj e3
  have c1 : ¬ (iI κ = iI κ' ∧ S = S') → Tt (fun K t => q_X13_isForm K t 1 (nI i) (nI j) 0 0 r0 r2 0 z) Q := by
    intro hn
    refine u_X13_isForm_1 ?_; unfold qm_X13_isForm_1
    refine u_X13_isForm_2 ?_; unfold qm_X13_isForm_2
    exact c30 _ hn
  refine e_X13_isForm ?_
  refine u_X13_isForm_0 ?_; unfold qm_X13_isForm_0
  rw [show nI i + 1 = nI (i + 1) from nI_1 _, show nI j + 1 = nI (j + 1) from nI_1 _]
  refine w_rdI h0 rfl (by omega) hS.1 (w_rdI h2 rfl (by omega) hS'.1 (w_if (fun ek => w_rdI h0 rfl (by omega) hS.2.1 (w_rdI h2 rfl (by omega) hS'.2.1 (w_eqN (by omega) (by omega) (fun el => ?_) (fun el => c1 (fun h9 => el (by rw [h9.2])))))) (fun ek => c1 (fun h9 => ek h9.1))))
  refine u_X13_isForm_2 ?_; unfold qm_X13_isForm_2
  exact c3 S.length 0 (by omega) el ek (fun t ht => absurd ht (Nat.not_lt_zero _))
theorem xq_equal (h : gI X z) (hG : ∀ W, X W → XG W) : Te (fun K => qe_X13_equal K x x' z) (fun r => r.2.1 1 = 0 ∧ (r.1 = 0 ∧ (noB (z.2.1 96) x ∨ noB (z.2.1 96) x') ∨ ∃ b n l b' n' l', b < 20 ∧ x = nI b ∧ hBr z b n l ∧ b' < 20 ∧ x' = nI b' ∧ hBr z b' n' l' ∧ (n ≠ n' ∧ r.1 = 0 ∨ n = n' ∧ ∀ w F j w' F' j', (∀ i, i < l → (w i).1 + 1 < n ∧ z.2.1 94 (16 * b + i) = lx9 (w i)) → nfL n F → F.length ≤ l → eqT n (foT n w l).1 (List.replicate j (gNN n - 1) ++ F) → (∀ i, i < l' → (w' i).1 + 1 < n ∧ z.2.1 94 (16 * b' + i) = lx9 (w' i)) → nfL n F' → F'.length ≤ l' → eqT n (foT n w' l').1 (List.replicate j' (gNN n - 1) ++ F') → (r.1 = 1 ∧ iI ((foT n w l).2 + (j : Nat)) = iI ((foT n w' l').2 + (j' : Nat)) ∧ F = F' ∨ r.1 = 0 ∧ ¬ (iI ((foT n w l).2 + (j : Nat)) = iI ((foT n w' l').2 + (j' : Nat)) ∧ F = F'))))) := by
  have h1 := gI_1 (c := 0) h
  have e10 : (usF z 1 0).1 1 = 0 := po_usF_at
  refine e_X13_equal ?_; unfold qm_X13_equal_0
  refine w_wrF (w_hasBX h1.2.2.2.2.2.1 (fun h0 => w_ifT rfl (w_okZ (Or.inl rfl) (w_some ⟨e10, Or.inl ⟨rfl, Or.inl h0⟩⟩))) (fun c n l hc hx hh => w_ifF (by decide) (w_hasBX h1.2.2.2.2.2.1 (fun h0 => w_ifT rfl (w_okZ (Or.inl rfl) (w_some ⟨e10, Or.inl ⟨rfl, Or.inr h0⟩⟩))) (fun c2 n2 l2 hc2 hx2 hh2 => w_ifF (by decide) ?_))))
  subst hx
  subst hx2
  have b5 := hh.2.1
  have b52 := hh2.2.1
  refine w_rdI ml96 rfl (by omega) hh.2.2.2.1 (w_rdI ml96 rfl (by omega) hh2.2.2.2.1 (w_eqN (by omega) (by omega) (fun en => ?_) (fun en => w_okZ (Or.inl rfl) (w_some ⟨e10, Or.inr ⟨c, n, l, c2, n2, l2, hc, rfl, hh, hc2, rfl, hh2, Or.inl ⟨en, rfl⟩⟩⟩))))
  subst en
  have fo : ∀ {y : ow_MS} {b l : Nat}, b < 20 → hBr y b n l → gI X y → Te (fun K => qe_X13_formOf K (nI b) y) (fun z1 => ((∃ S κ, fmI z1 n S ∧ S.length ≤ 16 ∧ z1.1 112 = iI κ ∧ -16 ≤ κ ∧ κ + szL n S ≤ 160) ∧ fr nmH y z1) ∧ ∀ a : (Nat → Nat × Bool) × List Nat × Nat, ((∀ i, i < l → (a.1 i).1 + 1 < n ∧ y.2.1 94 (16 * b + i) = lx9 (a.1 i)) ∧ nfL n a.2.1 ∧ eqT n (foT n a.1 l).1 (List.replicate a.2.2 (gNN n - 1) ++ a.2.1)) → fmI z1 n a.2.1 ∧ z1.1 112 = iI ((foT n a.1 l).2 + (a.2.2 : Nat))) := fun hb hb9 hy => te_all (tp_formOf hb hb9 (gI_tb hG hy)) (fun a ⟨a1, a2, a3⟩ => xr_formOf hb hb9 (gI_tb hG hy) a1 a2 a3)
  refine w_cs0 (fo hc hh h1) (fun y1 ⟨⟨⟨S, κ, f1, f2, f3, _⟩, f4⟩, hall1⟩ => ?_)
  have g1 := gI_nm f4 h1
  refine w_cs0 (tp_formTo (r := 117) (o := 0) ml117 (by omega) (by omega) (by omega) (by omega) f1 f3) (fun y2 ⟨k1, k2, _⟩ => ?_)
  have g2 : gI X y2 := gI_fr k2 (fun g hg => by rw [hg]; decide) g1
  have hh3 : hBr y2 c2 n l2 := hBr_fr (P := fun g => g = 117) k2 (by omega) (by omega) (by omega) (hBr_fr f4 (by unfold nmH; omega) (by unfold nmH; omega) (by unfold nmH; omega) hh2)
  have r94 : y2.2.1 94 = z.2.1 94 := (k2 94 (by omega)).2.1.trans (f4 94 (by unfold nmH; omega)).2.1
  refine w_cs0 (fo hc2 hh3 g2) (fun y3 ⟨⟨⟨S3, κ3, a1, a2, a3, _⟩, a4⟩, hall2⟩ => ?_)
  have g3 := gI_nm a4 g2
  refine w_cs0 (tp_formTo (r := 118) (o := 0) ml118 (by omega) (by omega) (by omega) (by omega) a1 a3) (fun y4 ⟨b1, b2, _⟩ => ?_)
  have k4 : frwI y4 117 0 n S κ := frwI_fr b2 (by omega) (frwI_fr a4 (by unfold nmH; omega) k1)
  have e14 : y4.1 1 = 0 := ((((b2 1 (by omega)).1.trans (a4 1 (by unfold nmH; omega)).1).trans (k2 1 (by omega)).1).trans (f4 1 (by unfold nmH; omega)).1).trans e10
  refine w_cs1 (xr_isForm (i := 0) (j := 0) ml117 ml118 (by omega) (by omega) (by omega) (by omega) k4 b1) (fun v y5 ⟨e5, e6⟩ => ?_)
  have e5 : y5 = y4 := e5
  subst e5
  refine w_okZ (by
    rcases e6 with e6 | e6
    · exact Or.inr e6.1
    · exact Or.inl e6.1) (w_some ⟨e14, Or.inr ⟨c, n, l, c2, n, l2, hc, rfl, hh, hc2, rfl, hh2, Or.inr ⟨rfl, fun w F j w' F' j' q1 q2 q3 q4 q5 q6 q7 q8 => ?_⟩⟩⟩)
  have l16 := hh.2.2.1
  have l162 := hh2.2.2.1
  obtain ⟨m1, m2⟩ := hall1 (w, F, j) ⟨q1, q2, q4⟩
  obtain ⟨m3, m4⟩ := hall2 (w', F', j') ⟨fun i hi => by rw [r94]; exact q5 i hi, q6, q8⟩
  have eF : F = S := fm_uni m1 f1 (by omega) (by omega)
  have eF' : F' = S3 := fm_uni m3 a1 (by omega) (by omega)
  have ek : iI ((foT n w l).2 + (j : Nat)) = iI κ := m2.symm.trans f3
  have ek' : iI ((foT n w' l2).2 + (j' : Nat)) = iI κ3 := m4.symm.trans a3
  rw [eF, eF', ek, ek']
  exact e6
theorem c_equal (hG : ∀ W, X W → XG W) (h : rel3 X z y) : Te (fun K => qe_X13_equal K x x' z) (fun rr => Te (fun K => ce_X11_equal vl K 0 x x' y) (fun rc => rel3 X rr.2 rc.2 ∧ rr.2.1 1 = 0 ∧ rr.1 = rc.1)) := by
  have hI := r3_g h
  have hB := h.2.2.2.2.1
  have hR := h.2.2.2.1
  refine te_two (te_fo (te_and (tp_equal (a := x) (b := x') hG hI) (xq_equal (x := x) (x' := x') hI hG)) (fun K => ff_X13_equal)) (te_fo (xc_equal (x := x) (x' := x') hB) (fun K => ff_X11_equal)) (fun rr rc ⟨⟨hgI, r0, hr⟩, fR⟩ ⟨hc, fC⟩ => ⟨rel3_nf fR fC (pf_nf (by decide)) (fun g hg => by omega) hgI h, r0, ?_⟩)
  have no1 : ∀ {x : Int32} {b n l w}, noB (z.2.1 96) x → brW y x b n l w → False := fun {x b n l w} r2 ⟨w1, w2, w3, w4, w5, _⟩ => by
    have := r2 b w1 w2
    rw [(hR b w1).1, w5] at this
    exact absurd this (nI_ne0 (by omega) (by omega))
  have no2 : ∀ {x : Int32} {b n l}, noB (y.2.1 15) x → b < 20 → x = nI b → hBr z b n l → False := fun {x b n l} c2 hb hx hh => by
    have := c2 b hb hx
    rw [← (hR b hb).1, hh.2.2.2.1] at this
    exact absurd this (nI_ne0 (by have := hh.1; omega) (by have := hh.2.1; omega))
  rcases hr with ⟨r1, r2⟩ | ⟨b, n, l, b', n', l', hb, hx, hh, hb', hx', hh', hr⟩
  · rcases hc with ⟨c1, -⟩ | ⟨b, n, l, w, b', n', l', w', hW, hW', -⟩
    · exact r1.trans c1.symm
    · rcases r2 with r2 | r2
      · exact (no1 r2 hW).elim
      · exact (no1 r2 hW').elim
  · rcases hc with ⟨c1, c2⟩ | ⟨b1, n1, l1, w, b2, n2, l2, w', hW, hW', hc⟩
    · rcases c2 with c2 | c2
      · exact (no2 c2 hb hx hh).elim
      · exact (no2 c2 hb' hx' hh').elim
    · obtain ⟨rfl, rfl, rfl, hwz⟩ := br_same hR hb hx hh hW
      obtain ⟨rfl, rfl, rfl, hwz'⟩ := br_same hR hb' hx' hh' hW'
      rcases hr with ⟨r1, r2⟩ | ⟨r1, r2⟩
      · rcases hc with ⟨c1, c2⟩ | ⟨c1, -⟩
        · exact r2.trans c2.symm
        · exact absurd c1 r1
      · rcases hc with ⟨c1, -⟩ | ⟨c1, F, j, F', j', q1, q2, q3, q4, q5, q6, q7⟩
        · exact absurd r1 c1
        · subst r1
          rcases r2 w F j w' F' j' hwz q1 q2 q3 hwz' q4 q5 q6 with ⟨k1, k2⟩ | ⟨k1, k2⟩
          · rcases q7 with ⟨k3, -⟩ | ⟨-, k4⟩
            · exact k1.trans k3.symm
            · exact absurd k2 k4
          · rcases q7 with ⟨-, k3⟩ | ⟨k3, -⟩
            · exact absurd k3 k2
            · exact k1.trans k3.symm
end NFC
end
section
/-! 99zzzzzzzzzzzzzze.xnf11 -/
/-! the ends of simple braids as the reference has them at the start -/
def dE9 (n : Nat) (y : ow_MS) : Prop := eN n (gNN n) y
theorem dE_fB {P : Nat → Prop} {n m : Nat} {y y1 : ow_MS} (h2 : 2 ≤ m) (h5 : m ≤ 5) (hm : m ≠ n) (hf : fB P n y y1) (h : dE9 m y) : dE9 m y1 := by
  have hN := nn_pos (n := m)
  exact ⟨by rw [hf.2 97 m (by unfold inB; omega)]; exact h.1, fun k hk s hs => by rw [hf.2 98 _ (by unfold inB; omega)]; exact h.2 k hk s hs⟩
theorem smE_12 {Q : ow_MS → Prop} {n : Nat} {z : ow_MS} (h2 : 2 ≤ n) (h5 : n ≤ 5) (hE : eN n (gNN n) z) (hS : szN n (gNN n) z) (hM : mN n (gNN n) 0 z) (hT : tT n (gNN n) z) (H : ∀ y, dE9 n y → fB pA n z y → Tt (fun K t => q_X13_makeSimples_a K t 1 (nI (n + 1)) 0 0 0 0 0 0 0 0 0 y) Q) : Tt (fun K t => q_X13_makeSimples_a K t 12 (nI n) 0 0 0 0 0 0 0 0 0 z) Q := by
  have hN := nn_pos (n := n)
  have np : ∀ g, (97 ≤ g ∧ g ≤ 103) → ¬ pR g := fun g hg h => by unfold pR at h; omega
  have tRz : ∀ {y : ow_MS}, fB pR n z y → tR n y := fun hf => tR_fr hf.1 (np _ (by omega)) (np _ (by omega)) (np _ (by omega)) (fun k hk => ⟨(hS k hk).1, (hS k hk).2, fun j hj => hM k j (Or.inl hk) hk hj⟩)
  have e97 : ∀ {y : ow_MS}, fB pR n z y → y.2.1 97 n = nI (gNN n) := fun hf => by rw [(hf.1 97 (np _ (by omega))).2.1]; exact hE.1
  have c12 : ∀ (d k : Nat) (y : ow_MS), k + d = gNN n → pN n k 0 y → fB pR n z y → Tt (fun K t => q_X13_makeSimples_a K t 12 (nI n) (nI k) 0 0 0 0 0 0 0 0 y) Q := by
    intro d
    induction d with
    | zero =>
      intro k y hk hp hf
      have e : k = gNN n := by omega
      subst e
      refine u_X13_makeSimples_a_12 ?_; unfold qm_X13_makeSimples_12_a
      rw [nI_1]
      refine w_rdI ma97 rfl (by omega) (e97 hf) (w_leT (by omega) (by omega) (H y ?_ (fB_mono hf (fun g hg => by unfold pR at hg; unfold pA; omega))))
      exact eN_fr hf.1 (np _ (by omega)) (np _ (by omega)) hE
    | succ d ih =>
      intro k y hk hp hf
      have hkN : k < gNN n := by omega
      have c13 : ∀ (dd j : Nat) (y : ow_MS), j + dd + 1 = n → pN n k j y → fB pR n z y → Tt (fun K t => q_X13_makeSimples_a K t 13 (nI n) (nI k) (nI j) 0 0 0 0 0 0 0 y) Q := by
        intro dd
        induction dd with
        | zero =>
          intro j y hj hp hf
          refine u_X13_makeSimples_a_13 ?_; unfold qm_X13_makeSimples_13_a
          rw [show nI n - 1 = nI (n - 1) from pk_sub (b := 1) (by omega), nI_1]
          refine w_leT (by omega) (by omega) (ih (k + 1) y (by omega) (fun l i h1 h3 h4 => hp l i ?_ h3 h4) hf)
          omega
        | succ dd ihd =>
          intro j y hj hp hf
          refine u_X13_makeSimples_a_13 ?_; unfold qm_X13_makeSimples_13_a
          rw [show nI n - 1 = nI (n - 1) from pk_sub (b := 1) (by omega), nI_1 j]
          refine w_leF (by omega) (by omega) (w_cs0 (tp_turnRound_a h2 h5 hkN (by omega) (tRz hf)) ?_)
          rintro y1 ⟨⟨r1, r2⟩, r3, r4⟩
          refine ihd (j + 1) y1 (by omega) (fun l i h1 h3 h4 => ?_) (fB_tr hf r4)
          by_cases e : l = k ∧ i = j
          · rw [e.1, e.2]
            exact ⟨r1, r2⟩
          · rw [r3 104 _ (Or.inl rfl) (by omega), r3 105 _ (Or.inr rfl) (by omega)]
            exact hp l i (by omega) h3 h4
      refine u_X13_makeSimples_a_12 ?_; unfold qm_X13_makeSimples_12_a
      exact w_rdI ma97 rfl (by omega) (e97 hf) (w_leF (by omega) (by omega) (c13 (n - 1) 0 y (by omega) hp hf))
  exact c12 (gNN n) 0 z (by omega) (fun l i h1 => by omega) fB_rf
theorem smE_2 {Q : ow_MS → Prop} {n : Nat} {z : ow_MS} (h2 : 2 ≤ n) (h5 : n ≤ 5) (h0 : z.2.1 100 (120 * n) = 0) (H : ∀ y, dE9 n y → fB pA n z y → Tt (fun K t => q_X13_makeSimples_a K t 1 (nI (n + 1)) 0 0 0 0 0 0 0 0 0 y) Q) : Tt (fun K t => q_X13_makeSimples_a K t 2 (nI n) 0 0 0 0 0 0 0 0 0 z) Q := by
  have hN := nn_pos (n := n)
  obtain ⟨z1, z2, z3⟩ := hh9 h2 h5
  have c2 : ∀ (d a : Nat) (y : ow_MS), a + d = n → fB (fun g => g = 98) n z y → (∀ s, s < a → y.2.1 98 (600 * n + s) = nI s) → Tt (fun K t => q_X13_makeSimples_a K t 2 (nI n) (nI a) 0 0 0 0 0 0 0 0 y) Q := by
    intro d
    induction d with
    | zero =>
      intro a y ha hf hy
      have ea : a = n := by omega
      subst ea
      refine u_X13_makeSimples_a_2 ?_; unfold qm_X13_makeSimples_2_a
      refine w_leT (by omega) (by omega) (w_wrI ma97 rfl (by omega) (sm_3 h2 h5 ⟨po_usI_at, fun k hk s hs => ?_⟩ (fun k hk => ⟨?_, fun i hi => ?_⟩) (fun y1 hE hS hM hf1 => w_cs0 (tp_makeTurned_a h2 h5 hE) (fun y2 h9 => ?_))))
      · rw [show k = 0 by omega, z3 s hs, show 5 * (120 * a + 0) + s = 600 * a + s by omega]
        exact rd_ot (by omega) (hy s hs)
      · rw [show k = 0 by omega, z2]
        refine rd_ot (by omega) ?_
        rw [Nat.add_zero, (hf.1 100 (by omega)).2.1]
        exact h0
      · rw [show k = 0 by omega, z2] at hi
        omega
      · obtain ⟨hT, hf2⟩ := h9
        have np : ∀ g, (97 ≤ g ∧ g ≤ 101) → ¬ pTu g := fun g hg h => by unfold pTu at h; omega
        refine smE_12 h2 h5 (eN_fr hf2.1 (np _ (by omega)) (np _ (by omega)) hE) (szN_fr hf2.1 (np _ (by omega)) (np _ (by omega)) hS) (mN_fr hf2.1 (np _ (by omega)) hM) hT (fun y3 hd hf3 => H y3 hd ?_)
        have f1 : fB pA a z (usI y 97 a 1) := fB_I2 (fB_mono hf (fun g hg => by unfold pA; omega)) (by unfold pA; omega) (by unfold inB; omega)
        exact fB_tr (fB_tr (fB_tr f1 (fB_mono hf1 (fun g hg => by unfold pS at hg; unfold pA; omega))) (fB_mono hf2 (fun g hg => by unfold pTu at hg; unfold pA; omega))) hf3
    | succ d ih =>
      intro a y ha hf hy
      refine u_X13_makeSimples_a_2 ?_; unfold qm_X13_makeSimples_2_a
      rw [show (600 : Int32) * nI n + nI a = nI (600 * n + a) from by rw [show (600 : Int32) * nI n = nI (600 * n) from pk_mul 600 _, nI_add], nI_1 a]
      refine w_leF (by omega) (by omega) (w_wrI ma98 rfl (by omega) (ih (a + 1) _ (by omega) (fB_I2 hf rfl (by unfold inB; omega)) (fun s hs => ?_)))
      by_cases e : s = a
      · rw [e]
        exact po_usI_at
      · exact rd_ne (by omega) (hy s (by omega))
  exact c2 n 0 z (by omega) fB_rf (fun s hs => by omega)
theorem tp_simE {z : ow_MS} (hz : ∀ n, n ≤ 5 → z.2.1 100 (120 * n) = 0) : Te (fun K => qe_X13_makeSimples_a K z) (fun z1 => (∀ n, 2 ≤ n → n ≤ 5 → dE9 n z1) ∧ fr pA z z1) := by
  let Q : ow_MS → Prop := fun z1 => (∀ n, 2 ≤ n → n ≤ 5 → dE9 n z1) ∧ fr pA z z1
  have key : ∀ (d n : Nat) (y : ow_MS), n + d = 6 → 2 ≤ n → (∀ m, 2 ≤ m → m < n → dE9 m y) → (∀ m, n ≤ m → m ≤ 5 → y.2.1 100 (120 * m) = 0) → fr pA z y → Tt (fun K t => q_X13_makeSimples_a K t 1 (nI n) 0 0 0 0 0 0 0 0 0 y) Q := by
    intro d
    induction d with
    | zero =>
      intro n y hn h2 hD h0 hf
      refine u_X13_makeSimples_a_1 ?_; unfold qm_X13_makeSimples_1_a
      exact w_ltT (a := 5) (by omega) (by omega) (w_some ⟨fun m h1 h3 => hD m h1 (by omega), hf⟩)
    | succ d ih =>
      intro n y hn h2 hD h0 hf
      refine u_X13_makeSimples_a_1 ?_; unfold qm_X13_makeSimples_1_a
      refine w_ltF (a := 5) (by omega) (by omega) (smE_2 h2 (by omega) (h0 n (by omega) (by omega)) (fun y1 hd hf1 => ih (n + 1) y1 (by omega) (by omega) (fun m h1 h3 => ?_) (fun m h1 h3 => ?_) (fr_tr hf hf1.1)))
      · by_cases e : m = n
        · rw [e]
          exact hd
        · exact dE_fB h1 (by omega) e hf1 (hD m h1 (by omega))
      · rw [hf1.2 100 _ (by unfold inB; omega)]
        exact h0 m (by omega) h3
  refine e_X13_makeSimples_a ?_
  refine u_X13_makeSimples_a_0 ?_; unfold qm_X13_makeSimples_0_a
  exact key 4 2 z (by omega) (by omega) (fun m h1 h3 => by omega) (fun m h1 h3 => hz m h3) fr_rf
end
