/-! conway: both sides answer the same -/
theorem i64_i32 (v : Int) : (Int64.ofInt v).toInt32 = iI v := by
  apply Int32.toInt_inj.mp
  rw [Int64.toInt_toInt32, Int64.toInt_ofInt, Int32.toInt_ofInt]
  exact Int.bmod_bmod_of_dvd (by decide)
/-- the first visit of a list that is that of its own code -/
theorem nrm_base {A : rn_L} {sg : Nat → Bool} (h : nrm A sg) (hl : 0 < A.flatten.length) : 0 < rn_b A 1 ∧ vAt A 0 = (0, 0) := by
  obtain ⟨T, g, Ds, qs, n1, n2, n3, n4, n5⟩ := h
  have hN := isoS_iff.mp n3.1
  have hc := n1.2.1
  have hv := n1.1
  obtain ⟨i1, i2, i3, i4⟩ := parts_I hv hc
  have hT : 0 < T.1 := by have := hN.2.1; omega
  have hq : 0 < qs.length := by
    have := n4.2.2.1.length_eq
    rw [List.length_range] at this
    obtain ⟨r, r1, -⟩ := i2 0 (by omega)
    omega
  obtain ⟨q0, Q, rfl⟩ : ∃ q0 Q, qs = q0 :: Q := by
    cases qs with
    | nil => exact absurd hq (Nat.lt_irrefl _)
    | cons a b => exact ⟨a, b, rfl⟩
  have hq0 : q0 < (np_parts T.1 T.2.2.1.1).2 := List.mem_range.mp (n4.2.2.1.mem_iff.mp List.mem_cons_self)
  have hlt : q0 < Ds.length := by rw [n4.1]; exact hq0
  obtain ⟨e1, -⟩ := n4.2.1 q0 Ds[q0] (List.getElem?_eq_getElem hlt)
  obtain ⟨w, w1, w2⟩ := i3 q0 hq0
  obtain ⟨v, v1, v2, v3, v4⟩ := epC_le (n0 := ptL T.1 T.2.2.1 q0) (fun v hv1 ev => tf_len_pt T.2.2.2 hv hc hv1 ev) ⟨w, w1, w2⟩ e1
  obtain ⟨t1, t2⟩ := tf_T0 (G := T.2.2.2) (N := T.2.2.1.1) (v := v)
  have head : ∀ u, ∃ L, tfL (tf_code T.2.2.2 T.2.2.1.1 u) = cd_first T.2.2.2 u :: L := fun u => by
    obtain ⟨a1, a2⟩ := tf_T0 (G := T.2.2.2) (N := T.2.2.1.1) (v := u)
    unfold tfL
    obtain ⟨k, hk⟩ : ∃ k, (tf_code T.2.2.2 T.2.2.1.1 u).len = k + 1 := ⟨_, (Nat.succ_pred_eq_of_pos a2).symm⟩
    rw [hk, List.range_succ_eq_map, List.map_cons, a1]
    exact ⟨_, rfl⟩
  have ev : v % 2 = 0 := by
    rcases Nat.mod_two_eq_zero_or_one v with h9 | h9
    · exact h9
    · exfalso
      have hm : mt v = v - 1 := by
        unfold mt
        rw [if_neg (by omega)]
      have h8 := v4 (mt v) (mt_lt v1) ((i1 v v1).2.trans v2)
      obtain ⟨L1, l1⟩ := head v
      obtain ⟨L2, l2⟩ := head (mt v)
      rw [v3, l1, l2] at h8
      have hcd : cd_first T.2.2.2 v = cd_first T.2.2.2 (mt v) + 2 := by
        unfold cd_first
        rw [mt_h2, h9, hm, show (v - 1) % 2 = 0 by omega]
        omega
      have h8 : (if cd_first T.2.2.2 v = cd_first T.2.2.2 (mt v) then lexD L1 L2 else (cd_first T.2.2.2 v : Int) - cd_first T.2.2.2 (mt v)) ≤ 0 := h8
      rw [if_neg (by omega)] at h8
      omega
  have e2 : (cdR Ds (q0 :: Q)).flatten ++ List.replicate T.2.1 0 = ucd sg 0 [] A := congrArg Prod.snd n5
  have e3 : (Ds.getD q0 (0, [])).2 = tfL (tf_code T.2.2.2 T.2.2.1.1 v) := by
    rw [List.getD_eq_getElem?_getD, List.getElem?_eq_getElem hlt]
    exact v3
  obtain ⟨L1, l1⟩ := head v
  have e4 : ∃ Y, ucd sg 0 [] A = cd_first T.2.2.2 v :: Y := by
    rw [← e2]
    unfold cdR
    rw [List.map_cons, List.flatten_cons, e3, l1]
    exact ⟨_, rfl⟩
  obtain ⟨Y, e4⟩ := e4
  have hb := cd_first_lt T.2.2.2 v
  have hf : cd_first T.2.2.2 v ≤ 5 := by
    unfold cd_first
    rw [ev]
    split <;> omega
  cases A with
  | nil => exact absurd hl (by decide)
  | cons B R =>
    cases B with
    | nil =>
      have e4 : 0 :: ucd sg (nxb 0 ([] ++ [[]])) ([] ++ [[]]) R = cd_first T.2.2.2 v :: Y := e4
      have := (List.cons.inj e4).1
      omega
    | cons p B =>
      have e4 : clc sg 0 p :: (B.map (clc sg 0) ++ 0 :: ucd sg (nxb 0 ([] ++ [p :: B])) ([] ++ [p :: B]) R) = cd_first T.2.2.2 v :: Y := e4
      have e5 := (List.cons.inj e4).1
      unfold clc at e5
      have h1 : p.1 = 0 ∧ p.2 = 0 := by
        split at e5 <;> omega
      refine ⟨?_, ?_⟩
      · show 0 < ([p :: B].flatten).length
        rw [List.flatten_cons, List.flatten_nil, List.append_nil, List.length_cons]
        omega
      · exact (vAt_eq (show (List.flatten ((p :: B) :: R))[0]? = some p from rfl)).trans (Prod.ext h1.1 h1.2)
/-- what conway answers -/
def cwN9 (A : rn_L) (sg : Nat → Bool) (x v : Int32) : Prop := (∀ k, k < 40 → x = nI k → v = iI (skV 13 A sg k)) ∧ ((∀ k, k < 40 → x ≠ nI k) → v = 0)
theorem cwN_uni {A : rn_L} {sg : Nat → Bool} {x v w : Int32} (h1 : cwN9 A sg x v) (h2 : cwN9 A sg x w) : v = w := by
  by_cases h : ∃ k, k < 40 ∧ x = nI k
  · obtain ⟨k, k1, k2⟩ := h
    rw [h1.1 k k1 k2, h2.1 k k1 k2]
  · have hn : ∀ k, k < 40 → x ≠ nI k := fun k k1 k2 => h ⟨k, k1, k2⟩
    rw [h1.2 hn, h2.2 hn]
theorem sk_sg : ∀ (F : Nat) (A : rn_L) (sg sg' : Nat → Bool) (k : Nat), wkF A.flatten → (∀ p, p ∈ A.flatten → sg p.1 = sg' p.1) → skV F A sg k = skV F A sg' k
  | 0, _, _, _, _, _, _ => rfl
  | F + 1, A, sg, sg', k, hF, hs => by
    by_cases hx : ∃ v, bdF A v
    · obtain ⟨v, hv⟩ := hx
      obtain ⟨b1, b2, b3⟩ := bd_lt hF hv
      have ex : sg (crs A v) = sg' (crs A v) := hs _ (vAt_mem hv.1)
      obtain ⟨c1, c2, c3⟩ := smC_ok hF b1 b2
      obtain ⟨hg, ho⟩ : gPre A 0 ∧ ouT A 0 (crL A).length := ⟨fun v hv => absurd hv (Nat.not_lt_zero _), crL A, Nat.le_refl _, fun v hv => Or.inr (crL_m hF (u := uns A v) (vAt_mem hv))⟩
      obtain ⟨f1, h1, h2, h3, h4, -⟩ := sk_sm hF hg ho hv.1 b2 b1 b3 hv.2.1 hv.2.2.1 hv.2.2.2 c1 c2 c3
      have e1 : ∀ k, skV F (smV A v (mtf A v)) sg k = skV F (smV A v (mtf A v)) sg' k := fun k => sk_sg F _ sg sg' k h2 (fun p hp => hs p ((sm_perm b1 b2).mem_iff.mpr (List.mem_cons_of_mem _ (List.mem_cons_of_mem _ hp))))
      have e2 : skV F (chA A (crs A v)) (chS sg (crs A v)) k = skV F (chA A (crs A v)) (chS sg' (crs A v)) k := sk_sg F _ _ _ k (ch_wk hF _) (fun p hp => by
        unfold chA at hp
        rw [fl_map2] at hp
        obtain ⟨q, hq, e9⟩ := List.mem_map.mp hp
        have ep : p.1 = q.1 := by rw [← e9, flp_1]
        unfold chS
        rw [ep, hs q hq])
      rw [sk_some hv, sk_some hv, ex, e1, e2]
    · have hn : ∀ v, ¬ bdF A v := fun v hv => hx ⟨v, hv⟩
      rw [sk_none hn, sk_none hn]
/-- the reference's last numbers -/
def cwR (z : ow_MS) : Prop := ∀ T1, rc_At z 43 0 T1 → T1 = [] ∨ ∃ A sg c, okL A c ∧ T1 = tk sg A ∧ cwA z (skV 13 A sg)
theorem cwR_fr {P : Nat → Prop} {z z1 : ow_MS} (hf : fr P z z1) (h1 : ¬ P 42) (h2 : ¬ P 43) (h : cwR z) : cwR z1 := by
  intro T1 hT
  have hT' : rc_At z 43 0 T1 := by
    obtain ⟨a1, a2, a3, a4⟩ := hT
    rw [(hf 43 h2).2.1] at a3
    exact ⟨a1, a2, a3, fun k t hk => by rw [← (hf 43 h2).2.1]; exact a4 k t hk⟩
  rcases h T1 hT' with e | ⟨A, sg, c, q1, q2, q3⟩
  · exact Or.inl e
  · exact Or.inr ⟨A, sg, c, q1, q2, cwA_fr hf h1 q3⟩
section XCG
variable {X : (Nat → Nat → Int32) → Prop} {z : ow_MS} {St : plT}
theorem xq_conway {d x : Int32} (h : gI X z) (hR : relR z St) (hS : okS St) (hJ : cwR z) : Te (fun K => qe_X13_conway K d x z) (fun r => cwR r.2 ∧ (rFl X z 1 r ∧ (∀ e, e < 40 → d = nI e → St e = none) ∨ ∃ e A sg, e < 40 ∧ d = nI e ∧ St e = some (A, sg) ∧ r.2.1 1 = 0 ∧ ∃ sg9 c, tk sg9 A = tk sg A ∧ okL A c ∧ cwN9 A sg9 x r.1)) := by
  let Q : Int32 × ow_MS → Prop := fun r => cwR r.2 ∧ (rFl X z 1 r ∧ (∀ e, e < 40 → d = nI e → St e = none) ∨ ∃ e A sg, e < 40 ∧ d = nI e ∧ St e = some (A, sg) ∧ r.2.1 1 = 0 ∧ ∃ sg9 c, tk sg9 A = tk sg A ∧ okL A c ∧ cwN9 A sg9 x r.1)
  have h1 := gI_1 (c := 0) h
  have hR1 := relR_1 (c := 0) hR
  have f01 : fr rPs z (usF z 1 0) := fr_1
  refine e_X13_conway ?_
  refine u_X13_conway_0 ?_; unfold qm_X13_conway_0
  refine w_wrF (w_hasX hR1 (fun h0 => w_ifT rfl (w_mono (w_failX h1 fr_1) (fun r hr => ⟨cwR_fr hr.2.2 (by unfold rPs rSc; omega) (by unfold rPs rSc; omega) hJ, Or.inl ⟨hr, h0⟩⟩))) (fun e A sg he hx hs hv hne => w_ifF (by decide) ?_))
  subst hx
  have c4 : ∀ {x1 : Int32} {y : ow_MS} {sg9 : Nat → Bool} {c : Nat}, (∀ k, k < 40 → x ≠ nI k) → y.1 1 = 0 → cwR y → tk sg9 A = tk sg A → okL A c → Tt (fun K i => q_X13_conway K i 4 x1 x 0 y) Q := by
    intro x1 y sg9 c hx g2 g4 g5 g6
    refine u_X13_conway_4 ?_; unfold qm_X13_conway_4
    exact w_some ⟨g4, Or.inr ⟨e, A, sg, he, rfl, hs, g2, sg9, c, g5, g6, fun k k1 k2 => absurd k2 (hx k k1), fun _ => rfl⟩⟩
  have c3 : ∀ {x1 : Int32} {y : ow_MS} {sg9 : Nat → Bool} {c : Nat}, y.1 1 = 0 → cwR y → tk sg9 A = tk sg A → okL A c → cwA y (skV 13 A sg9) → Tt (fun K i => q_X13_conway K i 3 x1 x 0 y) Q := by
    intro x1 y sg9 c g2 g4 g5 g6 g7
    refine u_X13_conway_3 ?_; unfold qm_X13_conway_3
    refine w_if (fun h0 => c4 (fun k k1 k2 => ?_) g2 g4 g5 g6) (fun h0 => ?_)
    · rw [k2] at h0
      exact nI_pos (by omega) h0
    · obtain ⟨k, k31, rfl⟩ := nI_of h0
      refine w_lt (b := 40) k31 (by omega) (fun hk => ?_) (fun hk => c4 (fun k' k1 k2 => ?_) g2 g4 g5 g6)
      · refine w_rdJ ml42 rfl hk (g7 k hk) (w_some ⟨g4, Or.inr ⟨e, A, sg, he, rfl, hs, g2, sg9, c, g5, g6, fun k' k1 k2 => ?_, fun h9 => absurd rfl (h9 k hk)⟩⟩)
        rw [← nI_inj9 (a := k) (b := k') (by omega) (by omega) k2]
        exact i64_i32 _
      · have := nI_inj9 (a := k) (b := k') (by omega) (by omega) k2
        omega
  obtain ⟨⟨T1, k1⟩, kC⟩ := h1.2.2.2.2.1
  have hTl := hv.1.1
  obtain ⟨-, -, c, hA⟩ := hS e A sg he hs
  have hFw : wkF A.flatten := okF_wk (by have := hA.2.2.2.1; omega) hA.1
  rw [show (32 : Int32) * nI e = nI (32 * e) from pk_mul 32 e]
  refine w_cs1 (tr_same (o := 32 * e) (p := 0) ml12 ml43 (by omega) (by omega) (by omega) (by omega) hv.1 k1) (fun a y e9 => ?_)
  cases e9
  have hJ1 : cwR (usF z 1 0) := cwR_fr f01 (by unfold rPs rSc; omega) (by unfold rPs rSc; omega) hJ
  refine w_if (fun _ => ?_) (fun h8 => ?_)
  rotate_left
  · have eS : tk sg A = T1 := by
      by_cases q : tk sg A = T1
      · exact q
      · exact absurd (by rw [decide_eq_false q]; rfl) h8
    rcases hJ1 T1 k1 with q | ⟨A9, sg9, c9, q1, q2, q3⟩
    · have := tk_pos (sg := sg) hne
      rw [eS, q] at this
      exact absurd this (by decide)
    · obtain ⟨u1, u2⟩ := tk_inj A A9 (okL_u hA) (okL_u q1) (eS.trans q2)
      subst u1
      exact c3 po_usF_at hJ1 (q2.symm.trans eS.symm) q1 q3
  have lp2 : ∀ (dd i : Nat) (y1 y : ow_MS), i + dd = 32 → y1.2.1 12 = (usF z 1 0).2.1 12 → y1.1 1 = 0 → cwA y1 (skV 13 A sg) → fr (fun g => g = 43) y1 y → (∀ t, t < i → y.2.1 43 t = y1.2.1 12 (32 * e + t)) → Tt (fun K t => q_X13_conway K t 2 (nI e) x (nI i) y) Q := by
    intro dd
    induction dd with
    | zero =>
      intro i y1 y hi e12 e1 h42 hf ht
      have hrow : rc_At y1 12 (32 * e) (tk sg A) := by
        obtain ⟨a1, a2, a3, a4⟩ := hv.1
        exact ⟨a1, a2, by rw [e12]; exact a3, fun k t hk => by rw [e12]; exact a4 k t hk⟩
      have hr43 : rc_At y 43 0 (tk sg A) := rc_cpy hrow (fun t h9 => ht t (by omega))
      have h42' : cwA y (skV 13 A sg) := cwA_fr hf (by decide) h42
      refine u_X13_conway_2 ?_; unfold qm_X13_conway_2
      exact w_leT (a := 32) (by omega) (by omega) (c3 (by rw [(hf 1 (by decide)).1]; exact e1) (fun T9 hT9 => Or.inr ⟨A, sg, c, hA, rc_uni hT9 hr43, h42'⟩) rfl hA h42')
    | succ dd ih =>
      intro i y1 y hi e12 e1 h42 hf ht
      refine u_X13_conway_2 ?_; unfold qm_X13_conway_2
      rw [show (32 : Int32) * nI e = nI (32 * e) from pk_mul 32 e, nI_add, nI_1]
      refine w_leF (a := 32) (by omega) (by omega) (w_rdI ml12 rfl (by omega) rfl (w_wrI ml43 rfl (by omega) (ih (i + 1) y1 _ (by omega) e12 e1 h42 (fr_I2 hf rfl) (fun t h9 => ?_))))
      by_cases hti : t = i
      · rw [hti, po_usI_at, (hf 12 (by decide)).2.1]
      · exact rd_ne hti (ht t (by omega))
  have lp1 : ∀ (dd i : Nat) (y : ow_MS), i + dd = 40 → fr (fun g => g = 42) (usF z 1 0) y → (∀ t, t < i → y.2.2 42 t = Int64.ofInt 0) → Tt (fun K t => q_X13_conway K t 1 (nI e) x (nI i) y) Q := by
    intro dd
    induction dd with
    | zero =>
      intro i y hi hf ht
      have hv9 : vRow y 12 (32 * e) A sg := vRow_fr9 hf (by decide) hv
      refine u_X13_conway_1 ?_; unfold qm_X13_conway_1
      refine w_leT (a := 40) (by omega) (by omega) (w_rdN (i := 0) rfl (by omega) (w_cs0 (to_open (pnL (i := 0) (by omega)) he hv9) (fun z2 ⟨o2, f2⟩ => w_okZ (Or.inl rfl) (w_wrF ?_))))
      have f3 : fr (fun g => g = 46) z2 (usF z2 46 0) := fr_F rfl
      have hA4 : rn_At (usF z2 46 0) (1000 * (0 + 4)) A [] := o2.1.1
      have hS4 : rn_sg (usF z2 46 0) (1000 * (0 + 4)) A.flatten sg := o2.2.1
      have hcw : cwA (usF z2 46 0) (fun _ => 0) := cwA_fr f3 (by decide) (cwA_fr f2 (by omega) (fun t h9 => ht t (by omega)))
      obtain ⟨hg, ho⟩ := ou_all hFw (by have := okF_len hA.1; have := hA.2.2.2.1; omega)
      have hsk : Te (fun K => qe_X13_skein K 0 1 0 0 (usF z2 46 0)) (fun z1 => fr (skH 0) (usF z2 46 0) z1 ∧ cwA z1 (fun t => 0 + 1 * shf 0 (skV 13 A sg) t)) := xr_skein 12 0 16 0 0 A sg 1 (fun _ => 0) (usF z2 46 0) (by omega) (by omega) (by omega) hFw (by have := okF_len hA.1; have := hA.2.2.2.1; omega) (by have := hA.2.2.2.2; omega) hA4 hS4 hg ho po_usF_at hcw
      refine w_cs0 hsk (fun z3 ⟨f4, c4'⟩ => ?_)
      have f5 : fr (fun g => g = 42 ∨ g = 46 ∨ g = 41 ∨ g = 44 ∨ 1000 ≤ g) (usF z 1 0) z3 := fr_tr (fr_mono (fun g hg => Or.inl hg) hf) (fr_tr (fr_mono (fun g hg => by omega) f2) (fr_tr (fr_mono (fun g hg => Or.inr (Or.inl hg)) f3) (fr_mono (fun g hg => by unfold skH at hg; omega) f4)))
      refine lp2 32 0 z3 z3 (by omega) (f5 12 (by omega)).2.1 (by rw [(f5 1 (by omega)).1]; exact po_usF_at) (cwA_cg c4' (fun t ht => ?_)) fr_rf (fun t ht => absurd ht (by omega))
      unfold shf
      rw [if_pos (Nat.zero_le _), Nat.sub_zero, Int.one_mul, Int.zero_add]
    | succ dd ih =>
      intro i y hi hf ht
      refine u_X13_conway_1 ?_; unfold qm_X13_conway_1
      rw [nI_1]
      refine w_leF (a := 40) (by omega) (by omega) (w_wrJ ml42 rfl (by omega) (ih (i + 1) _ (by omega) (fr_J2 hf rfl) (fun t h9 => ?_)))
      by_cases hti : t = i
      · rw [hti, usJ_at]
        rfl
      · rw [usJ_ne hti]
        exact ht t (by omega)
  exact lp1 40 0 (usF z 1 0) (by omega) fr_rf (fun t ht => absurd ht (by omega))
end XCG
