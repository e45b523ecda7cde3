/-! way: both sides ask for the same -/
def rvK (kd : Nat) : Nat := if kd = 0 then 1 else if kd = 1 then 0 else if kd = 2 then 3 else if kd = 3 then 2 else 4
section XW1
variable {A A' B E : rn_L} {sg sg' sgB sgE : Nat → Bool} {R RB T : ow_NT} {f : Nat → Nat} {kd c cE : Nat}
theorem tb_all (hk : kd < 5) (hR : isoV A sg idN R) (hO : OM A sg R.1 kd A' sg') (hV : isoV A' sg' f RB) (hp : pm1 RB) (hpl : nt_plane RB = true) (hA : plnA A sg) : tBk (rvK kd) A sg RB := by
  have hM : mM3 RB := m3_meet (isoV_vn hV) hV.1.2.2.1 hpl
  rcases (show kd = 0 ∨ kd = 1 ∨ kd = 2 ∨ kd = 3 ∨ kd = 4 by omega) with rfl | rfl | rfl | rfl | rfl
  · exact tb_01 hR hO hV
  · exact tb_10 (isoV_ok hR) hO hV
  · exact tb_23 hR hO hV hp hM hA
  · exact tb_32 (isoV_ok hR) hO hV hp
  · exact tb_44 hR hO hV hp
theorem rvK_5 (hk : kd < 5) : rvK kd < 5 := by
  rcases (show kd = 0 ∨ kd = 1 ∨ kd = 2 ∨ kd = 3 ∨ kd = 4 by omega) with rfl | rfl | rfl | rfl | rfl <;> decide
/-- the list is that of its own code -/
def nrm (A : rn_L) (sg : Nat → Bool) : Prop := ∃ T g Ds qs, nv T ∧ pm1 T ∧ isoV A sg g T ∧ cpZ T (np_parts T.1 T.2.2.1.1).2 Ds qs ∧ enC T Ds qs = clC sg A
/-- a code and a row of one list, which is that of its own code -/
def crN (C : cdT) (r : List Nat) : Prop := ∃ A sg c, okL A c ∧ C = clC sg A ∧ r = tk sg A ∧ A ≠ [] ∧ plnA A sg ∧ nrm A sg
theorem nx_iso (h : nxC A sg c R) (hpl : plnA A sg) : isoV A sg idN R ∧ pm1 R ∧ nt_plane R = true ∧ R.1 = c := by
  obtain ⟨k1, k2, k3, k4⟩ := h
  have hV : isoV A sg idN R := isoV_of k2 k3.1
  have hp : pm1 R := fun x hx => by
    rw [k4.2 x (by have := k4.1; omega)]
    cases sg x
    · exact Or.inl rfl
    · exact Or.inr rfl
  exact ⟨hV, hp, hpl _ _ hV hp, k4.1⟩
theorem jnN9 {F P : Nat → Int32} {Q : ow_NT} {j : Nat} {Ds : List cdT} {qs : List Nat} {r : List Nat} (hR : nv R) (hp : pm1 R) (hpl : nt_plane R = true) (h6 : A.length ≤ 6) (hne : A ≠ []) (hk : kd < 5) (hO : OM A sg R.1 kd A' sg') (hj : j < mv_cnt R.1 kd) (hmk : mv_mk kd R F P) (hQ : ow_b24 Q.2.2.1) (hB : mv_B kd j Q R F P = true) (hi : isoV A' sg' f (mv_T kd j Q R F P)) (hZ : cpZ (mv_T kd j Q R F P) (np_parts (mv_T kd j Q R F P).1 (mv_T kd j Q R F P).2.2.1.1).2 Ds qs) (hr : nfR A' sg' r) : crN (enC (mv_T kd j Q R F P) Ds qs) r := by
  obtain ⟨m, Pp, hmk9, rfl⟩ := hr
  have hl9 := OM_len hO
  have hnv := (mv_nv hR hk F P Q j hmk hQ hj).2 hB
  obtain ⟨A2, sg2, e1, e2, e3, e4, f', e5⟩ := enc_iso (isoS_iff.mp hi.1) (by omega) hnv hmk9 hZ
  have hpp := mv_pl hR hp hpl hk hQ hj hB
  refine ⟨A2, sg2, _, e2, e3, e1, fun e => ?_, plnA_of e5 hpp.2 hpp.1, _, f', Ds, qs, hnv, hpp.2, e5, hZ, e3⟩
  rw [e] at e4
  have : A.length ≠ 0 := fun e9 => hne (List.eq_nil_of_length_eq_zero e9)
  have e4 : 0 = _ := e4
  omega
/-- what stands near a code, on the class's side -/
def surC (A : rn_L) (sg : Nat → Bool) (c : Nat) (X : List cdT) : Prop := (∀ C, C ∈ X → ∃ kd R j, kd < 5 ∧ nxC A sg c R ∧ j < mv_cnt R.1 kd ∧ mvD kd R j C) ∧ ∀ kd, kd < 5 → ∃ R, nxC A sg c R ∧ ∀ j, j < mv_cnt R.1 kd → mvN kd R j ∨ ∃ C, mvD kd R j C ∧ C ∈ X
/-- and on the reference's -/
def nerR (A : rn_L) (sg : Nat → Bool) (c : Nat) (N : List (List Nat)) : Prop := (∀ r, r ∈ N → ∃ kd A' sg', kd < 5 ∧ OM A sg c kd A' sg' ∧ nfR A' sg' r) ∧ ∀ kd A' sg', kd < 5 → OM A sg c kd A' sg' → ∃ r, r ∈ N ∧ nfR A' sg' r
theorem w_rc {X : List cdT} {N : List (List Nat)} (hA : okL A c) (hne : A ≠ []) (hpl : plnA A sg) (hX : surC A sg c X) (hN : ∀ r, r ∈ N → ∃ kd A' sg', kd < 5 ∧ OM A sg c kd A' sg' ∧ nfR A' sg' r) : ∀ r, r ∈ N → ∃ C, C ∈ X ∧ crN C r := by
  intro r hr
  obtain ⟨kd, A', sg', hk, hO, hn⟩ := hN r hr
  obtain ⟨R, hR, hall⟩ := hX.2 kd hk
  obtain ⟨hV, hp, hpn, ec⟩ := nx_iso hR hpl
  have mb := mb_all hV hp hA.2.2.2.2 hpn hk
  rw [← ec] at hO
  obtain ⟨j, hj, hj2⟩ := mb.2 A' sg' hO
  rcases hall j hj with ⟨F, P, Q, d1, d2, d3⟩ | ⟨C, hD, hCX⟩
  · have := (hj2 F P Q d1 d2).1
    rw [d3] at this
    cases this
  · obtain ⟨F, P, Q, Ds, qs, d1, d2, d3, d4, rfl⟩ := hD
    obtain ⟨-, f, hf⟩ := hj2 F P Q d1 d2
    exact ⟨_, hCX, jnN9 hR.2.2.1 hp hpn hA.2.2.2.2 hne hk hO hj d1 d2 d3 hf d4 hn⟩
theorem w_cr {X : List cdT} {N : List (List Nat)} (hA : okL A c) (hne : A ≠ []) (hpl : plnA A sg) (hX : surC A sg c X) (hN : nerR A sg c N) : ∀ C, C ∈ X → ∃ r, r ∈ N ∧ crN C r := by
  intro C hC
  obtain ⟨kd, R, j, hk, hR, hj, F, P, Q, Ds, qs, d1, d2, d3, d4, rfl⟩ := hX.1 C hC
  obtain ⟨hV, hp, hpn, ec⟩ := nx_iso hR hpl
  have mb := mb_all hV hp hA.2.2.2.2 hpn hk
  obtain ⟨A', sg', hO, hall⟩ := mb.1 j hj ⟨F, P, Q, d1, d2, d3⟩
  obtain ⟨-, f, hf⟩ := hall F P Q d1 d2
  obtain ⟨r, r1, r2⟩ := hN.2 kd A' sg' hk (by rw [← ec]; exact hO)
  exact ⟨r, r1, jnN9 hR.2.2.1 hp hpn hA.2.2.2.2 hne hk hO hj d1 d2 d3 hf d4 r2⟩
theorem mk9 (kd : Nat) (R : ow_NT) : mv_mk kd R (np_faces R.1 R.2.2.1 R.2.2.2).1 (np_parts R.1 R.2.2.1.1).1 := fun _ => ⟨fun _ _ => rfl, fun _ _ => rfl⟩
/-- a row of a normal list, and the list of which it is the normal form, show one net -/
theorem nf_show (hV : isoV A' sg' f T) (h6 : A'.length ≤ 6) (hT : nv T) (hE : okL E cE) (hn : nfR A' sg' (tk sgE E)) : ∃ f', isoV E sgE f' T := by
  obtain ⟨m, P, hk, e⟩ := hn
  obtain ⟨Cs, os, hZ⟩ := cp_ex hT
  obtain ⟨A2, sg2, e1, e2, -, -, f', e5⟩ := enc_iso (isoS_iff.mp hV.1) h6 hT hk hZ
  obtain ⟨q1, q2⟩ := tk_inj E A2 (okL_u hE) (okL_u e2) (e.trans e1)
  subst q1
  exact ⟨f', isoV_sg e5 q2⟩
def kdm (a b kd : Nat) : Prop := kd = 0 ∧ a + 1 = b ∨ kd = 1 ∧ a = b + 1 ∨ kd = 2 ∧ a + 2 = b ∨ kd = 3 ∧ a = b + 2 ∨ kd = 4 ∧ a = b
theorem kdm_5 {a b : Nat} (h : kdm a b kd) : kd < 5 := by
  unfold kdm at h
  omega
theorem mvT_1 {F P : Nat → Int32} {Q : ow_NT} {j : Nat} (hk : kd < 5) (hj : j < mv_cnt R.1 kd) (hB : mv_B kd j Q R F P = true) : kdm (mv_T kd j Q R F P).1 R.1 kd := by
  rcases (show kd = 0 ∨ kd = 1 ∨ kd = 2 ∨ kd = 3 ∨ kd = 4 by omega) with rfl | rfl | rfl | rfl | rfl
  · have hj : j < R.1 := hj
    have hB : mv_bs R.2.2.1.1 (2 * j) (2 * j + 1) = true := hB
    have e : (mv_T 0 j Q R F P).1 = R.1 - 1 := by
      show (mv_t0 Q R j).1 = _
      unfold mv_t0
      rw [if_pos hB]
      rfl
    exact Or.inl ⟨rfl, by omega⟩
  · have hB : mv_b1 R (j / 4) = true := hB
    have e : (mv_T 1 j Q R F P).1 = R.1 + 1 := by
      show (mv_t1 Q R (j / 4) (j % 4)).1 = _
      unfold mv_t1
      rw [if_pos hB, nt_pair_c]
      rfl
    exact Or.inr (Or.inl ⟨rfl, e⟩)
  · have hj : j < R.1 * R.1 := hj
    have hB : mv_b2 R (j / R.1) (j % R.1) = true := hB
    have hc : 0 < R.1 := by
      rcases Nat.eq_zero_or_pos R.1 with e | e
      · rw [e] at hj
        omega
      · exact e
    have h1 : j / R.1 < R.1 := Nat.div_lt_of_lt_mul hj
    have h2 : j % R.1 < j / R.1 := by
      unfold mv_b2 at hB
      exact of_decide_eq_true (Bool.and_eq_true_iff.mp hB).1
    have e : (mv_T 2 j Q R F P).1 = R.1 - 1 - 1 := by
      show (mv_t2 Q R (j / R.1) (j % R.1)).1 = _
      unfold mv_t2
      rw [if_pos hB]
      rfl
    exact Or.inr (Or.inr (Or.inl ⟨rfl, by omega⟩))
  · have hB : (mv_b3 R F P (j / 4 / (2 * R.1 + 2)) (j / 4 % (2 * R.1 + 2)) && nt_plane (mv_t3b Q R (j / 4 / (2 * R.1 + 2)) (j / 4 % (2 * R.1 + 2)) (j % 4))) = true := hB
    have e : (mv_T 3 j Q R F P).1 = R.1 + 2 := by
      show (mv_t3 Q R F P (j / 4 / (2 * R.1 + 2)) (j / 4 % (2 * R.1 + 2)) (j % 4)).1 = _
      unfold mv_t3
      rw [if_pos (Bool.and_eq_true_iff.mp hB).1, t3b_1]
    exact Or.inr (Or.inr (Or.inr (Or.inl ⟨rfl, e⟩)))
  · have hB : mv_b4 R j = true := hB
    have e : (mv_T 4 j Q R F P).1 = R.1 := by
      show (mv_t4 Q R j).1 = _
      unfold mv_t4
      rw [if_pos hB]
      rfl
    exact Or.inr (Or.inr (Or.inr (Or.inr ⟨rfl, e⟩)))
theorem way_fw {X XE : List cdT} {N : List (List Nat)} (hA : okL A c) (hne : A ≠ []) (hpl : plnA A sg) (hX : surC A sg c X) (hN : nerR A sg c N) (hE : okL E cE) (hEp : plnA E sgE) (hXE : surC E sgE cE XE) (h : ∃ r B sgB cB kd B' sg', r ∈ N ∧ nxR r B sgB cB ∧ kd < 5 ∧ OM B sgB cB kd B' sg' ∧ nfR B' sg' (tk sgE E)) : ∃ C, C ∈ X ∧ C ∈ XE := by
  obtain ⟨r, B, sgB, cB, kd, B', sg', hr, ⟨n1, n2, n3, n4⟩, hk, hO, hnf⟩ := h
  obtain ⟨C, hC, B2, sB, c2, o1, o2, o3, o4, o5, T2, g2, Ds2, qs2, t1, t2, t3, t4, t5⟩ := w_rc hA hne hpl hX hN.1 r hr
  obtain ⟨q1, q2⟩ := tk_inj B2 B (okL_u o1) (fun p hp => ((n2.2 p).mp hp).2) (o3.symm.trans n1)
  subst q1
  have t3' : isoV B2 sgB g2 T2 := isoV_sg t3 (fun p hp => (q2 p hp).symm)
  have l1 := okF_len n2
  have l2 := t3.1.2.1
  have ecB : cB = T2.1 := by omega
  subst ecB
  obtain ⟨RB, i1, i2, i3, i4⟩ := net_id t3' n2 n4 t2
  have hplB : plnA B2 sgB := fun f9 T9 h9 hp9 => o5 f9 T9 (isoV_sg h9 q2) hp9
  have hpnB : nt_plane RB = true := hplB _ _ i1 i3
  have mb := mb_all i1 i3 n4 hpnB hk
  have hO9 := hO
  rw [← i4] at hO
  obtain ⟨j, hj, hall⟩ := mb.2 B' sg' hO
  obtain ⟨b1, f1, b2⟩ := hall _ _ RB (mk9 kd RB) i2.2.2.1
  have nT3 := (mv_nv i2 hk _ _ RB j (mk9 kd RB) i2.2.2.1 hj).2 b1
  have l3 := OM_len hO
  obtain ⟨f3, b3⟩ := nf_show b2 (by omega) nT3 hE hnf
  obtain ⟨RE, hRE, hallE⟩ := hXE.2 (rvK kd) (rvK_5 hk)
  obtain ⟨v1, v2, v3, v4⟩ := nx_iso hRE hEp
  obtain ⟨f4, b4⟩ := iso_tr b2 b3 v1
  obtain ⟨j', hj', hall'⟩ := tb_all hk i1 hO b4 v2 v3 hplB
  rcases hallE j' hj' with ⟨F, P, Q, d1, d2, d3⟩ | ⟨C', ⟨F, P, Q, Ds, qs, d1, d2, d3, d4, rfl⟩, hCX⟩
  · have := (hall' F P Q d1 d2).1
    rw [d3] at this
    cases this
  · obtain ⟨w1, f5, w2⟩ := hall' F P Q d1 d2
    have nT5 := (mv_nv hRE.2.2.1 (rvK_5 hk) F P Q j' d1 d2 hj').2 w1
    refine ⟨C, hC, ?_⟩
    rw [o2, ← t5, cd_same t3' w2 n4 t1 nT5 t4 d4]
    exact hCX
theorem way_bw {X XE : List cdT} {N : List (List Nat)} (hA : okL A c) (hne : A ≠ []) (hpl : plnA A sg) (hX : surC A sg c X) (hN : nerR A sg c N) (hE : okL E cE) (hEp : plnA E sgE) (hEm : nrm E sgE) (hXE : surC E sgE cE XE) (h : ∃ C, C ∈ X ∧ C ∈ XE) : ∃ r, r ∈ N ∧ ∀ B sgB cB, nxR r B sgB cB → ∃ kd B' sg', kdm cE cB kd ∧ OM B sgB cB kd B' sg' ∧ ∀ r', nfR B' sg' r' → r' = tk sgE E := by
  obtain ⟨C, hC, hCE⟩ := h
  obtain ⟨r, hr, B, sB, cB, o1, o2, o3, o4, o5, T2, g2, Ds2, qs2, t1, t2, t3, t4, t5⟩ := w_cr hA hne hpl hX hN C hC
  refine ⟨r, hr, ?_⟩
  rintro B9 sgB cB9 ⟨n1, n2, n3, n4⟩
  obtain ⟨p1, p2⟩ := tk_inj B B9 (okL_u o1) (fun p hp => ((n2.2 p).mp hp).2) (o3.symm.trans n1)
  subst p1
  have t3' : isoV B sgB g2 T2 := isoV_sg t3 (fun p hp => (p2 p hp).symm)
  have hplB : plnA B sgB := fun f9 T9 h9 hp9 => o5 f9 T9 (isoV_sg h9 p2) hp9
  obtain ⟨kd, RE, j, hk, hRE, hj, F, P, Q, Ds, qs, d1, d2, d3, d4, e9⟩ := hXE.1 C hCE
  obtain ⟨v1, v2, v3, v4⟩ := nx_iso hRE hEp
  have mbE := mb_all v1 v2 hE.2.2.2.2 v3 hk
  obtain ⟨E', sg', hO, hall⟩ := mbE.1 j hj ⟨F, P, Q, d1, d2, d3⟩
  obtain ⟨-, f1, b1⟩ := hall F P Q d1 d2
  have nT5 := (mv_nv hRE.2.2.1 hk F P Q j d1 d2 hj).2 d3
  have l3 := OM_len hO
  obtain ⟨m, Pp, hmk⟩ := mk_ex E'
  obtain ⟨A2, sg2, e1, e2, e3, -, f2, e5⟩ := enc_iso (isoS_iff.mp b1.1) (by have := hE.2.2.2.2; omega) nT5 hmk d4
  obtain ⟨q1, q2, q3⟩ := clC_inj e2 o1 (e3.symm.trans (e9.symm.trans o2))
  subst q1
  have b2 : isoV A2 sgB f2 (mv_T kd j Q RE F P) := isoV_sg e5 (fun p hp => by rw [← p2 p hp, q3 p.1 ((e2.1.2 p).mp hp).1])
  have l1 := okF_len n2
  have l2 := t3.1.2.1
  have ecB : cB9 = T2.1 := by omega
  subst ecB
  obtain ⟨RB, i1, i2, i3, i4⟩ := net_id t3' n2 n4 t2
  have hpnB : nt_plane RB = true := hplB _ _ i1 i3
  obtain ⟨f4, b4⟩ := iso_tr b1 b2 i1
  obtain ⟨j', hj', hall'⟩ := tb_all hk v1 hO b4 i3 hpnB hEp
  obtain ⟨w1, f5, w2⟩ := hall' _ _ RB (mk9 (rvK kd) RB) i2.2.2.1
  have mbB := mb_all i1 i3 n4 hpnB (rvK_5 hk)
  obtain ⟨B', sg9, hO2, hall2⟩ := mbB.1 j' hj' ⟨_, _, RB, mk9 (rvK kd) RB, i2.2.2.1, w1⟩
  obtain ⟨-, f6, w3⟩ := hall2 _ _ RB (mk9 (rvK kd) RB) i2.2.2.1
  have nT6 := (mv_nv i2 (rvK_5 hk) _ _ RB j' (mk9 (rvK kd) RB) i2.2.2.1 hj').2 w1
  obtain ⟨Ds6, qs6, z6⟩ := cp_ex nT6
  have l4 := OM_len hO2
  obtain ⟨TE, gE, DE, qE, x1, x2, x3, x4, x5⟩ := hEm
  have eC := cd_same x3 w2 hE.2.2.2.2 x1 nT6 x4 z6
  have fin : ∀ r', nfR B' sg9 r' → r' = tk sgE E := by
    rintro r' ⟨m9, P9, hk9, e8⟩
    obtain ⟨A9, s9, a1, a2, a3, -⟩ := enc_pk (isoS_iff.mp w3.1) (by omega) nT6 hk9 z6
    have eD := eC
    rw [x5, a3] at eD
    exact e8.trans (a1.trans ((clC_tk hE a2).mp eD).symm)
  have cnt := mvT_1 (rvK_5 hk) hj' w1
  have l5 := w2.1.2.1
  have l6 := okF_len hE.1
  rw [show (mv_T (rvK kd) j' RB RB (np_faces RB.1 RB.2.2.1 RB.2.2.2).1 (np_parts RB.1 RB.2.2.1.1).1).1 = cE by omega, i4] at cnt
  exact ⟨rvK kd, B', sg9, cnt, by rw [← i4]; exact hO2, fin⟩
/-- one move: the code stands there if and only if the row does -/
theorem way_one {X : List cdT} {N : List (List Nat)} (hA : okL A c) (hne : A ≠ []) (hpl : plnA A sg) (hX : surC A sg c X) (hN : nerR A sg c N) (hE : okL E cE) : tk sgE E ∈ N ↔ clC sgE E ∈ X := by
  constructor
  · intro h
    obtain ⟨C, hC, B, sB, c2, o1, o2, o3, -⟩ := w_rc hA hne hpl hX hN.1 _ h
    rw [(clC_tk hE o1).mpr o3, ← o2]
    exact hC
  · intro h
    obtain ⟨r, hr, B, sB, c2, o1, o2, o3, -⟩ := w_cr hA hne hpl hX hN _ h
    rw [(clC_tk hE o1).mp o2, ← o3]
    exact hr
end XW1
