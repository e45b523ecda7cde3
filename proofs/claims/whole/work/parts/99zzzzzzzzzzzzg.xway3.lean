/-! the reference's way: its answer -/
def wyZ (g : Nat) : Prop := g = 1 ∨ g = 28 ∨ g = 30 ∨ fB2 g
def way9 (A : rn_L) (sg : Nat → Bool) (E : rn_L) (sgE : Nat → Bool) (v : Int32) : Prop := v = 0 ∧ tk sg A = tk sgE E ∨ tk sg A ≠ tk sgE E ∧ ∃ (N : List (List Nat)) (c : Nat), okF A.flatten c ∧ N.Nodup ∧ (∀ r, r ∈ N → ∃ kd A' sg', kd < 5 ∧ OM A sg c kd A' sg' ∧ nfR A' sg' r) ∧ (N.length < 1000 → ∀ kd A' sg', kd < 5 → OM A sg c kd A' sg' → ∃ r, r ∈ N ∧ nfR A' sg' r) ∧ (v = 1 ∧ tk sgE E ∈ N ∨ tk sgE E ∉ N ∧ (v = 2 ∧ (∃ r B sgB cB kd B' sg', r ∈ N ∧ nxR r B sgB cB ∧ kd < 5 ∧ OM B sgB cB kd B' sg' ∧ nfR B' sg' (tk sgE E)) ∨ v = -1 ∧ ∀ r, r ∈ N → ∃ B sgB cB, nxR r B sgB cB ∧ ∀ kd B' sg', kdm (E.flatten.length / 2) cB kd → OM B sgB cB kd B' sg' → ∃ r', nfR B' sg' r' ∧ r' ≠ tk sgE E))
section XW3
variable {X : (Nat → Nat → Int32) → Prop} {z : ow_MS} {St : plT} {x x' : Int32}
theorem nx_uni {r : List Nat} {A : rn_L} {sg : Nat → Bool} {c : Nat} (h : nxR r A sg c) : vOf r = 2 * c := by
  rw [h.1, vOf_tk, okF_len h.2.1]
theorem xq_way (h : gI X z) (hR : relR z St) : Te (fun K => qe_X13_way K x x' z) (fun r => (rFl X z 1 r ∧ ((∀ d, d < 40 → x = nI d → St d = none) ∨ ∀ d, d < 40 → x' = nI d → St d = none)) ∨ ∃ d A sg e E sgE, d < 40 ∧ x = nI d ∧ St d = some (A, sg) ∧ e < 40 ∧ x' = nI e ∧ St e = some (E, sgE) ∧ (rFl X z 2 r ∧ (8 < A.flatten.length ∨ 8 < E.flatten.length) ∨ A.flatten.length ≤ 8 ∧ E.flatten.length ≤ 8 ∧ gI X r.2 ∧ r.2.1 1 = 0 ∧ fr wyZ z r.2 ∧ way9 A sg E sgE r.1)) := by
  let Q : Int32 × ow_MS → Prop := fun r => (rFl X z 1 r ∧ ((∀ d, d < 40 → x = nI d → St d = none) ∨ ∀ d, d < 40 → x' = nI d → St d = none)) ∨ ∃ d A sg e E sgE, d < 40 ∧ x = nI d ∧ St d = some (A, sg) ∧ e < 40 ∧ x' = nI e ∧ St e = some (E, sgE) ∧ (rFl X z 2 r ∧ (8 < A.flatten.length ∨ 8 < E.flatten.length) ∨ A.flatten.length ≤ 8 ∧ E.flatten.length ≤ 8 ∧ gI X r.2 ∧ r.2.1 1 = 0 ∧ fr wyZ z r.2 ∧ way9 A sg E sgE r.1)
  have h1 := gI_1 (c := 0) h
  have hR1 := relR_1 (c := 0) hR
  have c1 : ((∀ d, d < 40 → x = nI d → St d = none) ∨ ∀ d, d < 40 → x' = nI d → St d = none) → Tt (fun K k => q_X13_way K k 1 x x' 0 0 0 0 0 (usF z 1 0)) Q := by
    intro h0
    refine u_X13_way_1 ?_; unfold qm_X13_way_1
    exact w_mono (w_failX (k := 1) h1 fr_1) (fun r hr => Or.inl ⟨hr, h0⟩)
  refine e_X13_way ?_
  refine u_X13_way_0 ?_; unfold qm_X13_way_0
  refine w_wrF (w_hasX hR1 (fun h0 => w_ifT rfl (c1 (Or.inl h0))) (fun d9 A sg hd9 hx hSt hv hne => w_ifF (by decide) (w_hasX hR1 (fun h0 => w_ifT rfl (c1 (Or.inr h0))) (fun e9 E sg2 he9 hy hSe hw hne2 => w_ifF (by decide) ?_))))
  subst hx
  subst hy
  have c2 : (8 < A.flatten.length ∨ 8 < E.flatten.length) → Tt (fun K k => q_X13_way K k 2 (nI d9) (nI e9) 0 0 0 0 0 (usF z 1 0)) Q := by
    intro h0
    refine u_X13_way_2 ?_; unfold qm_X13_way_2
    exact w_mono (w_failX (k := 2) h1 fr_1) (fun r hr => Or.inr ⟨d9, A, sg, e9, E, sg2, hd9, rfl, hSt, he9, rfl, hSe, Or.inl ⟨hr, h0⟩⟩)
  have l1 := hv.1.1
  have l2 := hw.1.1
  have v1 := vOf_le (tk sg A)
  have v2 := vOf_le (tk sg2 E)
  have va : vOf (tk sg A) = A.flatten.length := vOf_tk A
  have vb : vOf (tk sg2 E) = E.flatten.length := vOf_tk E
  rw [show (32 : Int32) * nI d9 = nI (32 * d9) from pk_mul 32 d9, show (32 : Int32) * nI e9 = nI (32 * e9) from pk_mul 32 e9]
  refine w_cs1 (tr_visits ml12 (by omega) (by omega) hv.1) (fun a y ea => ?_)
  cases ea
  rw [va]
  refine w_lt (a := 8) (by omega) (by omega) (fun h9 => c2 (Or.inl h9)) (fun hA8 => w_cs1 (tr_visits ml12 (by omega) (by omega) hw.1) (fun a y ea => ?_))
  cases ea
  rw [vb]
  refine w_le (b := 8) (by omega) (by omega) (fun hE8 => ?_) (fun h9 => c2 (Or.inr (by omega)))
  have hA8 : A.flatten.length ≤ 8 := by omega
  refine w_cs1 (xq_alike h1 hR1) (fun a y ⟨⟨ia, ie, ifr⟩, hal⟩ => ?_)
  have ia : gI X y := ia
  have ie : y.1 1 = 0 := ie
  have ifr : fr rPs (usF z 1 0) y := ifr
  have hfy : fr wyZ z y := fr_tr (fr_F (Or.inl rfl)) (fr_mono (fun g hg => by unfold rPs rSc at hg; unfold wyZ fB2; omega) ifr)
  have fin : ∀ {v : Int32} {y1 : ow_MS}, gI X y1 → y1.1 1 = 0 → fr wyZ z y1 → way9 A sg E sg2 v → Q (v, y1) := fun q1 q2 q3 q4 => Or.inr ⟨d9, A, sg, e9, E, sg2, hd9, rfl, hSt, he9, rfl, hSe, Or.inr ⟨hA8, hE8, q1, q2, q3, q4⟩⟩
  have alq : alG St (nI d9) (nI e9) ↔ tk sg A = tk sg2 E := by
    constructor
    · rintro ⟨d, A1, s1, e, B1, s2, k1, k2, k3, k4, k5, k6, k7⟩
      have ed := nI_inj9 (a := d9) (b := d) (by omega) (by omega) k2
      have ee := nI_inj9 (a := e9) (b := e) (by omega) (by omega) k5
      subst ed
      subst ee
      rw [hSt] at k3
      rw [hSe] at k6
      cases k3
      cases k6
      exact k7
    · intro e
      exact ⟨d9, A, sg, e9, E, sg2, hd9, rfl, hSt, he9, rfl, hSe, e⟩
  have hal : a = 1 ∧ alG St (nI d9) (nI e9) ∨ a = 0 ∧ ¬ alG St (nI d9) (nI e9) := hal
  refine w_if (fun h0 => ?_) (fun h0 => ?_)
  rotate_left
  · rcases hal with ⟨-, q⟩ | ⟨q, -⟩
    · exact w_some (fin ia ie hfy (Or.inl ⟨rfl, alq.mp q⟩))
    · exact absurd q h0
  have hneq : tk sg A ≠ tk sg2 E := by
    rcases hal with ⟨q, -⟩ | ⟨-, q⟩
    · rw [q] at h0
      exact absurd h0 (by decide)
    · exact fun e => q (alq.mpr e)
  have e12y : y.2.1 12 = (usF z 1 0).2.1 12 := (ifr 12 (by unfold rPs rSc; omega)).2.1
  have hvy : vRow y 12 (32 * d9) A sg := ⟨⟨hv.1.1, hv.1.2.1, by rw [e12y]; exact hv.1.2.2.1, fun k t hk => by rw [e12y]; exact hv.1.2.2.2 k t hk⟩, hv.2⟩
  have hwy : vRow y 12 (32 * e9) E sg2 := ⟨⟨hw.1.1, hw.1.2.1, by rw [e12y]; exact hw.1.2.2.1, fun k t hk => by rw [e12y]; exact hw.1.2.2.2 k t hk⟩, hw.2⟩
  obtain ⟨c, hcA, hc12⟩ := hv.2.1
  obtain ⟨cE, hcE, hcE12⟩ := hw.2.1
  have lE := okF_len hcE
  obtain ⟨T0, hT0⟩ : ∃ T0, T0 = tk sg2 E := ⟨_, rfl⟩
  -- what is known of the near rows
  let GN : List (List Nat) → Prop := fun N => N.Nodup ∧ (∀ r, r ∈ N → ∃ kd A' sg', kd < 5 ∧ OM A sg c kd A' sg' ∧ nfR A' sg' r) ∧ (N.length < 1000 → ∀ kd A' sg', kd < 5 → OM A sg c kd A' sg' → ∃ r, r ∈ N ∧ nfR A' sg' r)
  let J : List (List Nat) → ow_MS → Prop := fun N y1 => gI X y1 ∧ y1.1 1 = 0 ∧ fr wyZ z y1 ∧ rc_At y1 28 0 T0 ∧ y1.1 24 = nI N.length ∧ N.length ≤ 1000 ∧ rwS 23 y1 N
  have ways : ∀ {N : List (List Nat)} {v : Int32}, GN N → (v = 1 ∧ tk sg2 E ∈ N ∨ tk sg2 E ∉ N ∧ (v = 2 ∧ (∃ r B sgB cB kd B' sg', r ∈ N ∧ nxR r B sgB cB ∧ kd < 5 ∧ OM B sgB cB kd B' sg' ∧ nfR B' sg' (tk sg2 E)) ∨ v = -1 ∧ ∀ r, r ∈ N → ∃ B sgB cB, nxR r B sgB cB ∧ ∀ kd B' sg', kdm (E.flatten.length / 2) cB kd → OM B sgB cB kd B' sg' → ∃ r', nfR B' sg' r' ∧ r' ≠ tk sg2 E)) → way9 A sg E sg2 v := fun {N v} g1 g2 => Or.inr ⟨hneq, N, c, hcA, g1.1, g1.2.1, g1.2.2, g2⟩
  have c9a : ∀ (x3 x4 : Int32) (N : List (List Nat)) (y1 : ow_MS), J N y1 → GN N → tk sg2 E ∉ N → y1.1 29 = 1 → (∃ r B sgB cB kd B' sg', r ∈ N ∧ nxR r B sgB cB ∧ kd < 5 ∧ OM B sgB cB kd B' sg' ∧ nfR B' sg' (tk sg2 E)) → Tt (fun K i => q_X13_way K i 9 (nI d9) (nI e9) x3 x4 0 0 0 y1) Q := by
    rintro x3 x4 N y1 ⟨j1, j2, j3, -⟩ hg hno h29 hf
    refine u_X13_way_9 ?_; unfold qm_X13_way_9
    exact w_rdF h29 (w_ifF (by decide) (w_some (fin j1 j2 j3 (ways hg (Or.inr ⟨hno, Or.inl ⟨rfl, hf⟩⟩)))))
  have l6 : ∀ (k t : Nat) (N : List (List Nat)) (y1 : ow_MS), t + k = N.length → J N y1 → GN N → tk sg2 E ∉ N → y1.1 30 = nI 1 → y1.1 29 = 0 → (∀ (i : Nat) r, i < t → N[i]? = some r → ∃ B sgB cB, nxR r B sgB cB ∧ ∀ kd B' sg', kdm (E.flatten.length / 2) cB kd → OM B sgB cB kd B' sg' → ∃ r', nfR B' sg' r' ∧ r' ≠ tk sg2 E) → Tt (fun K i => q_X13_way K i 6 (nI d9) (nI e9) (nI cE) (nI t) 0 0 0 y1) Q := by
    intro k
    induction k with
    | zero =>
      intro t N y1 ht hj hg hno h30 h29 hI
      obtain ⟨j1, j2, j3, j4, j5, j6, j7⟩ := hj
      refine u_X13_way_6 ?_; unfold qm_X13_way_6
      refine w_rdF j5 (w_leT (by omega) (by omega) ?_)
      refine u_X13_way_9 ?_; unfold qm_X13_way_9
      refine w_rdF h29 (w_ifT rfl (w_some (fin j1 j2 j3 (ways hg (Or.inr ⟨hno, Or.inr ⟨rfl, fun r hr => ?_⟩⟩)))))
      obtain ⟨i, hi, e⟩ := List.getElem_of_mem hr
      exact hI i r (by omega) (by rw [List.getElem?_eq_getElem hi, e])
    | succ k ih =>
      intro t N y1 ht hj hg hno h30 h29 hI
      obtain ⟨j1, j2, j3, j4, j5, j6, j7⟩ := id hj
      have htN : t < N.length := by omega
      have hat : N[t]? = some N[t] := List.getElem?_eq_getElem htN
      obtain ⟨B, sg3, hD⟩ := j7.2.1 t htN
      have eB : tk sg3 B = N[t] := rc_uni hD.1 (j7.1 t _ hat)
      obtain ⟨cB, hcB, hcB12⟩ := hD.2.1
      have hnx : nxR N[t] B sg3 cB := ⟨eB.symm, hcB, hcB12, hD.2.2⟩
      have ld := hD.1.1
      have vd := vOf_le (tk sg3 B)
      have vdB : vOf (tk sg3 B) = 2 * cB := by rw [eB]; exact nx_uni hnx
      have c7 : ∀ (x5 : Int32) (kd : Nat), kd < 5 → (∀ kd', kdm (E.flatten.length / 2) cB kd' → kd' = kd) → Tt (fun K i => q_X13_way K i 7 (nI d9) (nI e9) (nI cE) (nI t) x5 0 (nI kd) y1) Q := by
        intro x5 kd hkd hku
        refine u_X13_way_7 ?_; unfold qm_X13_way_7
        rw [show (32 : Int32) * nI t = nI (32 * t) from pk_mul 32 t]
        refine w_ifF (rn_neg1 (by omega)) (w_cs0 (to_unpack (by omega) ml23 (by omega) (by omega) hD) (fun y2 ⟨a1, a2, a3⟩ => w_cs0 (to_link hD a1 a2) (fun y3 ⟨b1, b2⟩ => ?_)))
        have f13 : fr (fun g => 1001 ≤ g ∧ g ≤ 1011) y1 y3 := fr_tr (fr_mono (fun g hg => by omega) a3) (fr_mono (fun g hg => by omega) b2)
        have hs : snk1 X y3 T0 y3 (fun _ => False) 0 := by
          refine ⟨gI_net pn1 f13 (fun g hg => by omega) j1, ?_, fr_rf, rc_fr f13 (by omega) j4, Or.inr ⟨?_, fun h9 => h9⟩⟩
          · rw [(f13 30 (by omega)).1]
            exact h30
          · rw [(f13 29 (by omega)).1]
            exact h29
        refine w_cs0 (xr_try snk1_ok pn1 (by omega) hcB hkd b1 hs) (fun y4 ⟨⟨S', s1, s2, s3, s4, s5, s6⟩, _⟩ => ?_)
        have f34 : fr (fun g => fB2 g ∧ g ≠ 23 ∧ g ≠ 24) y1 y4 := fr_tr (fr_mono (fun g hg => by unfold fB2; omega) f13) s4
        have hj4 : J N y4 := ⟨s2, by rw [(f34 1 (by unfold fB2; omega)).1]; exact j2, fr_tr j3 (fr_mono (fun g hg => Or.inr (Or.inr (Or.inr hg.1))) f34), s5, by rw [(f34 24 (by omega)).1]; exact j5, j6, rwS_fr f34 (by omega) j7⟩
        refine u_X13_way_8 ?_; unfold qm_X13_way_8
        rw [nI_1]
        rcases s6 with ⟨q1, q2⟩ | ⟨q1, q2⟩
        · rcases s1.2.1 T0 q2 with h9 | ⟨B', sg', hO, hn⟩
          · exact h9.elim
          · have hf : ∃ r B sgB cB kd B' sg', r ∈ N ∧ nxR r B sgB cB ∧ kd < 5 ∧ OM B sgB cB kd B' sg' ∧ nfR B' sg' (tk sg2 E) := ⟨_, B, sg3, cB, kd, B', sg', List.getElem_mem htN, hnx, hkd, hO, by rw [← hT0]; exact hn⟩
            refine u_X13_way_6 ?_; unfold qm_X13_way_6
            refine w_rdF hj4.2.2.2.2.1 (w_le (by omega) (by omega) (fun _ => c9a _ _ N y4 hj4 hg hno q1 hf) (fun _ => w_rdF q1 (w_ifF (by decide) (c9a _ _ N y4 hj4 hg hno q1 hf))))
        · refine ih (t + 1) N y4 (by omega) hj4 hg hno s3 q1 (fun i r hi hr => ?_)
          by_cases e : i = t
          · subst e
            rw [hat] at hr
            cases hr
            refine ⟨B, sg3, cB, hnx, fun kd' B' sg' hkm hO => ?_⟩
            have := hku kd' hkm
            subst this
            obtain ⟨r', w1, w2⟩ := s1.2.2 B' sg' hO
            exact ⟨r', w2, fun e9 => q2 (by rw [hT0, ← e9]; exact w1)⟩
          · exact hI i r (by omega) hr
      have c7n : ∀ (x5 : Int32), (∀ kd', ¬ kdm (E.flatten.length / 2) cB kd') → Tt (fun K i => q_X13_way K i 7 (nI d9) (nI e9) (nI cE) (nI t) x5 0 (-1) y1) Q := by
        intro x5 hku
        refine u_X13_way_7 ?_; unfold qm_X13_way_7
        refine w_ifT rfl ?_
        refine u_X13_way_8 ?_; unfold qm_X13_way_8
        rw [nI_1]
        refine ih (t + 1) N y1 (by omega) hj hg hno h30 h29 (fun i r hi hr => ?_)
        by_cases e : i = t
        · subst e
          rw [hat] at hr
          cases hr
          exact ⟨B, sg3, cB, hnx, fun kd' B' sg' hkm => absurd hkm (hku kd')⟩
        · exact hI i r (by omega) hr
      have eE : E.flatten.length / 2 = cE := by omega
      rw [eE] at c7 c7n
      refine u_X13_way_6 ?_; unfold qm_X13_way_6
      rw [show (32 : Int32) * nI t = nI (32 * t) from pk_mul 32 t]
      refine w_rdF j5 (w_leF (by omega) (by omega) (w_rdF h29 (w_ifT rfl (w_cs1 (tr_visits ml23 (by omega) (by omega) hD.1) (fun a y9 ea => ?_)))))
      cases ea
      rw [vdB, show nI (2 * cB) / 2 = nI cB from by rw [show nI (2 * cB) / 2 = nI (2 * cB / 2) from pk_div (d := 2) (by omega) (by omega) (by omega)]; congr 1; omega]
      have ed : ∀ i : Int, -100 ≤ i → i ≤ 100 → (nI cE - nI cB = iI i ↔ (cE : Int) - cB = i) := fun i i1 i2 => by
        rw [nI_iI, nI_iI, iI_sub]
        exact iI_eq (by omega) (by omega) (by omega) (by omega)
      have dm1 := ed (-1) (by omega) (by omega)
      have d1 := ed 1 (by omega) (by omega)
      have dm2 := ed (-2) (by omega) (by omega)
      have d2 := ed 2 (by omega) (by omega)
      have d0 := ed 0 (by omega) (by omega)
      refine w_nzI (by decide) (w_if (fun g => c7 _ 0 (by omega) (fun kd' hk' => ?_)) (fun g1 => w_if (fun g => c7 _ 1 (by omega) (fun kd' hk' => ?_)) (fun g2 => w_if (fun g => c7 _ 2 (by omega) (fun kd' hk' => ?_)) (fun g3 => w_if (fun g => c7 _ 3 (by omega) (fun kd' hk' => ?_)) (fun g4 => w_if (fun g => c7 _ 4 (by omega) (fun kd' hk' => ?_)) (fun g5 => c7n _ (fun kd' hk' => ?_)))))))
      · have := dm1.mp g
        unfold kdm at hk'
        omega
      · have := d1.mp g
        unfold kdm at hk'
        omega
      · have := dm2.mp g
        unfold kdm at hk'
        omega
      · have := d2.mp g
        unfold kdm at hk'
        omega
      · have := d0.mp g
        unfold kdm at hk'
        omega
      · have n1 : ¬ ((cE : Int) - cB = -1) := fun h9 => g1 (dm1.mpr h9)
        have n2 : ¬ ((cE : Int) - cB = 1) := fun h9 => g2 (d1.mpr h9)
        have n3 : ¬ ((cE : Int) - cB = -2) := fun h9 => g3 (dm2.mpr h9)
        have n4 : ¬ ((cE : Int) - cB = 2) := fun h9 => g4 (d2.mpr h9)
        have n5 : ¬ ((cE : Int) - cB = 0) := fun h9 => g5 (d0.mpr h9)
        unfold kdm at hk'
        omega
  have l5 : ∀ (k t : Nat) (N : List (List Nat)) (y1 : ow_MS), t + k = N.length → J N y1 → GN N → (∀ (i : Nat) r, i < t → N[i]? = some r → r ≠ T0) → Tt (fun K i => q_X13_way K i 5 (nI d9) (nI e9) (nI t) 0 0 0 0 y1) Q := by
    intro k
    induction k with
    | zero =>
      intro t N y1 ht hj hg hI
      obtain ⟨j1, j2, j3, j4, j5, j6, j7⟩ := id hj
      have hTl := j4.1
      have hTv := vOf_le T0
      refine u_X13_way_5 ?_; unfold qm_X13_way_5
      refine w_rdF j5 (w_leT (by omega) (by omega) (w_okZ (Or.inl rfl) (w_wrF (w_wrF ?_))))
      have f3 : fr (fun g => g = 29 ∨ g = 30) y1 (usF (usF y1 29 0) 30 1) := fr_F2 (fr_F (Or.inl rfl)) (Or.inr rfl)
      have hj3 : J N (usF (usF y1 29 0) 30 1) := ⟨gI_fr f3 (fun g hg => by unfold per; omega) j1, by rw [(f3 1 (by omega)).1]; exact j2, fr_tr j3 (fr_mono (fun g hg => by unfold wyZ fB2; omega) f3), rc_fr f3 (by omega) j4, by rw [(f3 24 (by omega)).1]; exact j5, j6, rwS_fr f3 (by omega) j7⟩
      refine w_cs1 (tr_visits (o := 0) ml28 (by omega) (by omega) hj3.2.2.2.1) (fun a y9 ea => ?_)
      cases ea
      rw [hT0, vb, lE, show nI (2 * cE) / 2 = nI cE from by rw [show nI (2 * cE) / 2 = nI (2 * cE / 2) from pk_div (d := 2) (by omega) (by omega) (by omega)]; congr 1; omega]
      refine w_nzI (by decide) (l6 N.length 0 N _ (by omega) hj3 hg (fun h9 => ?_) po_usF_at ?_ (fun i r hi => absurd hi (Nat.not_lt_zero _)))
      · obtain ⟨i, hi, e⟩ := List.getElem_of_mem h9
        exact hI i _ (by omega) (by rw [List.getElem?_eq_getElem hi, e]) hT0.symm
      · show (usF (usF y1 29 0) 30 1).1 29 = 0
        exact rf_ot (by omega) po_usF_at
    | succ k ih =>
      intro t N y1 ht hj hg hI
      obtain ⟨j1, j2, j3, j4, j5, j6, j7⟩ := id hj
      have hTl := j4.1
      have htN : t < N.length := by omega
      have hat : N[t]? = some N[t] := List.getElem?_eq_getElem htN
      have w1 := j7.1 t _ hat
      have wl := w1.1
      refine u_X13_way_5 ?_; unfold qm_X13_way_5
      rw [show (32 : Int32) * nI t = nI (32 * t) from pk_mul 32 t, nI_1]
      refine w_rdF j5 (w_leF (by omega) (by omega) (w_cs1 (tr_same (p := 0) ml23 ml28 (by omega) (by omega) (by omega) (by omega) w1 j4) (fun a y9 ea => ?_)))
      cases ea
      refine w_if (fun h9 => ih (t + 1) N y1 (by omega) hj hg (fun i r hi hr => ?_)) (fun h9 => w_some (fin j1 j2 j3 (ways hg (Or.inl ⟨rfl, ?_⟩))))
      · by_cases e : i = t
        · subst e
          rw [hat] at hr
          cases hr
          intro e9
          rw [decide_eq_true e9] at h9
          exact absurd h9 (by decide)
        · exact hI i r (by omega) hr
      · by_cases e : N[t] = T0
        · rw [← hT0, ← e]
          exact List.getElem_mem htN
        · rw [decide_eq_false e] at h9
          exact absurd rfl h9
  have l4 : ∀ (k t : Nat) (N : List (List Nat)) (y1 : ow_MS), t + k = 5 → J N y1 → (∀ r, r ∈ N → ∃ kd A' sg', kd < t ∧ OM A sg c kd A' sg' ∧ nfR A' sg' r) → (N.length < 1000 → ∀ kd A' sg', kd < t → OM A sg c kd A' sg' → ∃ r, r ∈ N ∧ nfR A' sg' r) → vRow y1 12 (32 * d9) A sg → Tt (fun K i => q_X13_way K i 4 (nI d9) (nI e9) (nI t) 0 0 0 0 y1) Q := by
    intro k
    induction k with
    | zero =>
      intro t N y1 ht hj hg1 hg2 hvy1
      have et : t = 5 := by omega
      subst et
      refine u_X13_way_4 ?_; unfold qm_X13_way_4
      exact w_leT (a := 5) (by omega) (by omega) (l5 N.length 0 N y1 (by omega) hj ⟨hj.2.2.2.2.2.2.2.2, hg1, hg2⟩ (fun i r hi => absurd hi (Nat.not_lt_zero _)))
    | succ k ih =>
      intro t N y1 ht hj hg1 hg2 hvy1
      obtain ⟨j1, j2, j3, j4, j5, j6, j7⟩ := id hj
      refine u_X13_way_4 ?_; unfold qm_X13_way_4
      rw [nI_1]
      refine w_leF (a := 5) (by omega) (by omega) (w_cs0 (to_open pn1 hd9 hvy1) (fun y2 ⟨o1, f1⟩ => w_wrF ?_))
      have f2 : fr (fun g => 1001 ≤ g ∧ g ≤ 1011 ∨ g = 30) y1 (usF y2 30 2) := fr_F2 (fr_mono (fun g hg => Or.inl (by omega)) f1) (Or.inr rfl)
      have hs : snk2 X (usF y2 30 2) (usF y2 30 2) (fun r => r ∈ N) 0 := ⟨gI_fr f2 (fun g hg => by unfold per; omega) j1, po_usF_at, fr_rf, N, by rw [(f2 24 (by omega)).1]; exact j5, rwS_fr f2 (by omega) j7, j6, fun r hr => hr, fun _ r hr => hr⟩
      refine w_cs0 (xr_try snk2_ok pn1 (by omega) hcA (show t < 5 by omega) (oNet_fr (F := fun g => g = 30) (fr_F rfl) (fun g hg => by omega) o1) hs) (fun y3 ⟨⟨S', s1, s2, s3, s4, N3, s5, s6, s7, s8, s9⟩, _⟩ => ?_)
      have f4 : fr (fun g => g = 30 ∨ fB2 g) y1 y3 := fr_tr (fr_mono (fun g hg => by unfold fB2; omega) f2) (fr_mono (fun g hg => Or.inr hg) s4)
      have hj3 : J N3 y3 := ⟨s2, by rw [(f4 1 (by unfold fB2; omega)).1]; exact j2, fr_tr j3 (fr_mono (fun g hg => by unfold wyZ; rcases hg with h9 | h9 <;> simp [h9]) f4), rc_fr f4 (by unfold fB2; omega) j4, s5, s7, s6⟩
      have hlt : N3.length < 1000 → N.length < 1000 := fun h9 => by
        have := nodup_le N N3 j7.2.2 (fun r hr => s9 h9 r (s1.1 r hr))
        omega
      refine ih (t + 1) N3 y3 (by omega) hj3 (fun r hr => ?_) (fun h9 kd A' sg' hkd hO => ?_) ⟨rc_fr f4 (by unfold fB2; omega) hvy1.1, hvy1.2⟩
      · rcases s1.2.1 r (s8 r hr) with h9 | ⟨A', sg', hO, hn⟩
        · obtain ⟨kd, A', sg', q1, q2⟩ := hg1 r h9
          exact ⟨kd, A', sg', by omega, q2⟩
        · exact ⟨t, A', sg', by omega, hO, hn⟩
      · by_cases e : kd = t
        · subst e
          obtain ⟨r', q1, q2⟩ := s1.2.2 A' sg' hO
          exact ⟨r', s9 h9 r' q1, q2⟩
        · obtain ⟨r', q1, q2⟩ := hg2 (hlt h9) kd A' sg' (by omega) hO
          exact ⟨r', s9 h9 r' (s1.1 r' q1), q2⟩
  have cp : ∀ (j k : Nat) (y2 : ow_MS), k + j = (tk sg2 E).length + 1 → fr (fun g => g = 28) y y2 → (∀ i, i < k → y2.2.1 28 i = y.2.1 12 (32 * e9 + i)) → Tt (fun K i => q_X13_way K i 3 (nI d9) (nI e9) (nI k) 0 0 0 0 y2) Q := by
    intro j
    induction j with
    | zero =>
      intro k y2 hk hf2 hc
      have e12 := (hf2 12 (by omega)).2.1
      refine u_X13_way_3 ?_; unfold qm_X13_way_3
      rw [show (32 : Int32) * nI e9 = nI (32 * e9) from pk_mul 32 e9]
      refine w_rdI ml12 rfl (by omega) (x := nI (tk sg2 E).length) (by rw [e12]; exact hwy.1.2.2.1) (w_ltT (by omega) (by omega) (w_wrF ?_))
      have f3 : fr (fun g => g = 24 ∨ g = 28) y (usF y2 24 0) := fr_F2 (fr_mono (fun g hg => Or.inr hg) hf2) (Or.inl rfl)
      have hT : rc_At (usF y2 24 0) 28 0 (tk sg2 E) := (cp_row hwy (fun i hi => hc i (by omega)) : vRow y2 28 0 E sg2).1
      refine l4 5 0 [] _ (by omega) ⟨gI_fr f3 (fun g hg => by unfold per; omega) ia, by rw [(f3 1 (by omega)).1]; exact ie, fr_tr hfy (fr_mono (fun g hg => by unfold wyZ fB2; omega) f3), by rw [hT0]; exact hT, po_usF_at, by decide, ⟨fun k r hr => (by rw [List.getElem?_nil] at hr; cases hr), fun j hj => absurd hj (Nat.not_lt_zero _), List.nodup_nil⟩⟩ (fun r hr => absurd hr List.not_mem_nil) (fun _ kd A' sg' hkd => absurd hkd (Nat.not_lt_zero _)) ⟨rc_fr f3 (by omega) hvy.1, hvy.2⟩
    | succ j ih =>
      intro k y2 hk hf2 hc
      have e12 := (hf2 12 (by omega)).2.1
      refine u_X13_way_3 ?_; unfold qm_X13_way_3
      rw [show (32 : Int32) * nI e9 = nI (32 * e9) from pk_mul 32 e9, nI_add, nI_1]
      refine w_rdI ml12 rfl (by omega) (x := nI (tk sg2 E).length) (by rw [e12]; exact hwy.1.2.2.1) (w_ltF (by omega) (by omega) (w_rdI ml12 rfl (by omega) (by rw [e12]) (w_wrI ml28 rfl (by omega) (ih (k + 1) _ (by omega) (fr_I2 hf2 rfl) (fun i hi => ?_)))))
      by_cases hik : i = k
      · rw [hik, po_usI_at]
      · exact rd_ne hik (hc i (by omega))
  exact cp ((tk sg2 E).length + 1) 0 y (by omega) fr_rf (fun i hi => by omega)
end XW3
