/-! both sides: simplify -/
section XS2
variable {A A1 A2 A3 : rn_L} {sg sg1 sg2 sg3 : Nat → Bool} {R : ow_NT} {c c1 c2 c3 kd : Nat}
/-- a code and a row of one net that a move makes -/
theorem jn9 {A' : rn_L} {sg' : Nat → Bool} {f : Nat → Nat} {F P : Nat → Int32} {Q : ow_NT} {j : Nat} {Ds : List cdT} {qs : List Nat} {r : List Nat} (hR : nv R) (hp : pm1 R) (hpl : nt_plane R = true) (h6 : A.length ≤ 6) (hne : A ≠ []) (hk : kd < 5) (hO : OM A sg R.1 kd A' sg') (hj : j < mv_cnt R.1 kd) (hmk : mv_mk kd R F P) (hQ : ow_b24 Q.2.2.1) (hB : mv_B kd j Q R F P = true) (hi : isoV A' sg' f (mv_T kd j Q R F P)) (hZ : cpZ (mv_T kd j Q R F P) (np_parts (mv_T kd j Q R F P).1 (mv_T kd j Q R F P).2.2.1.1).2 Ds qs) (hr : nfR A' sg' r) : crP (enC (mv_T kd j Q R F P) Ds qs) r := by
  obtain ⟨m, Pp, hmk9, rfl⟩ := hr
  have hl9 := OM_len hO
  have hnv := (mv_nv hR hk F P Q j hmk hQ hj).2 hB
  obtain ⟨A2, sg2, e1, e2, e3, e4, f', e5⟩ := enc_iso (isoS_iff.mp hi.1) (by omega) hnv hmk9 hZ
  have hpp := mv_pl hR hp hpl hk hQ hj hB
  refine ⟨A2, sg2, _, e2, e3, e1, fun e => ?_, plnA_of e5 hpp.2 hpp.1⟩
  rw [e] at e4
  have : A.length ≠ 0 := fun e9 => hne (List.eq_nil_of_length_eq_zero e9)
  have e4 : 0 = _ := e4
  omega
theorem okL_u (h : okL A c) : ∀ p, p ∈ A.flatten → p.2 < 2 := fun p hp => ((h.1.2 p).mp hp).2
/-- the net of a code is the net of its row -/
theorem same9 (h1 : nxC A1 sg1 c1 R) (e12 : clC sg1 A1 = clC sg2 A2) (h2 : okL A2 c2) (hpl : plnA A2 sg2) (h3 : nxR (tk sg2 A2) A3 sg3 c3) : isoV A3 sg3 idN R ∧ pm1 R ∧ nt_plane R = true ∧ c3 = R.1 ∧ A3 = A2 := by
  obtain ⟨k1, k2, k3, k4⟩ := h1
  obtain ⟨q1, q2, q3⟩ := clC_inj k1 h2 e12
  subst q1
  obtain ⟨r1, r2⟩ := tk_inj A1 A3 (okL_u k1) (fun p hp => ((h3.2.1.2 p).mp hp).2) h3.1
  subst r1
  have hV : isoV A1 sg1 idN R := isoV_of k2 k3.1
  have s1 : ∀ p, p ∈ A1.flatten → sg3 p.1 = sg1 p.1 := fun p hp => by
    rw [← r2 p hp, q3 p.1 ((k1.1.2 p).mp hp).1]
  have s2 : ∀ p, p ∈ A1.flatten → sg2 p.1 = sg1 p.1 := fun p hp => (q3 p.1 ((k1.1.2 p).mp hp).1).symm
  have hp : pm1 R := fun x hx => by
    rw [k4.2 x (by have := k4.1; omega)]
    cases sg1 x
    · exact Or.inl rfl
    · exact Or.inr rfl
  refine ⟨isoV_sg hV s1, hp, hpl _ _ (isoV_sg hV s2) hp, ?_, rfl⟩
  have l1 := okF_len h3.2.1
  have l2 := okF_len k1.1
  have := k4.1
  omega
end XS2
section XS3
variable {Ls : List (List Nat)} {Cs : List cdT} {os : List Nat} {A0 : rn_L} {sg0 : Nat → Bool} {c0 : Nat}
theorem k024_5 {kd : Nat} (h : k024 kd) : kd < 5 := by rcases h with h | h | h <;> omega
theorem row_code (h0 : okL A0 c0) (hne : A0 ≠ []) (hpl : plnA A0 sg0) (hg : genR Ls (tk sg0 A0)) (hc : genC Cs (clC sg0 A0)) (hcl : cloC Cs) : ∀ r, r ∈ Ls → ∃ C, C ∈ Cs ∧ crP C r := by
  have key : ∀ (n i : Nat) r, i ≤ n → Ls[i]? = some r → ∃ C, C ∈ Cs ∧ crP C r := by
    intro n
    induction n with
    | zero =>
      intro i r hi hr
      have e : i = 0 := by omega
      rw [e, hg.1] at hr
      cases hr
      exact ⟨_, List.mem_of_getElem? hc.1, A0, sg0, c0, h0, rfl, rfl, hne, hpl⟩
    | succ n ih =>
      intro i r hi hr
      rcases hg.2 i r hr with e | ⟨i', r', A, sg, c, kd, A', sg', q1, q2, q3, q4, q5, q6⟩
      · exact ih i r (by omega) hr
      · obtain ⟨C', hC', A2, sg2, c2, k1, k2, k3, k4, k5⟩ := ih i' r' (by omega) q2
        obtain ⟨A1, sg1, c1, R, m1, m2, m3⟩ := hcl C' hC' kd q4
        have q39 := q3
        rw [k3] at q3
        obtain ⟨hV, hp, hpn, ec, eA⟩ := same9 m2 (m1.symm.trans k2) k1 k5 q3
        subst eA
        have hk := k024_5 q4
        have mb := mb_all hV hp q39.2.2.2 hpn hk
        rw [ec] at q5
        obtain ⟨j, hj, hall⟩ := mb.2 A' sg' q5
        rcases m3 j hj with ⟨F, P, Q, d1, d2, d3⟩ | ⟨D, hD, hx⟩
        · have := (hall F P Q d1 d2).1
          rw [d3] at this
          cases this
        · obtain ⟨F, P, Q, Ds, qs, d1, d2, d3, d4, rfl⟩ := hD
          obtain ⟨-, f, hf⟩ := hall F P Q d1 d2
          exact ⟨_, hx, jn9 m2.2.2.1 hp hpn q39.2.2.2 k4 hk q5 hj d1 d2 d3 hf d4 q6⟩
  intro r hr
  obtain ⟨i, hi, e⟩ := List.getElem_of_mem hr
  exact key i i r (Nat.le_refl _) (by rw [List.getElem?_eq_getElem hi, e])
theorem code_row (h0 : okL A0 c0) (hne : A0 ≠ []) (hpl : plnA A0 sg0) (hg : genR Ls (tk sg0 A0)) (hc : genC Cs (clC sg0 A0)) (hcl : cloR Ls) : ∀ C, C ∈ Cs → ∃ r, r ∈ Ls ∧ crP C r := by
  have key : ∀ (n i : Nat) C, i ≤ n → Cs[i]? = some C → ∃ r, r ∈ Ls ∧ crP C r := by
    intro n
    induction n with
    | zero =>
      intro i C hi hC
      have e : i = 0 := by omega
      rw [e, hc.1] at hC
      cases hC
      exact ⟨_, List.mem_of_getElem? hg.1, A0, sg0, c0, h0, rfl, rfl, hne, hpl⟩
    | succ n ih =>
      intro i C hi hC
      rcases hc.2 i C hC with e | ⟨i', A1, sg1, c1, R, kd, j, q1, q2, q3, q4, q5, q6⟩
      · exact ih i C (by omega) hC
      · obtain ⟨r', hr', A2, sg2, c2, k1, k2, k3, k4, k5⟩ := ih i' _ (by omega) q2
        obtain ⟨A, sg, c, m1, m2⟩ := hcl r' hr' kd q4
        have m19 := m1
        rw [k3] at m1
        obtain ⟨hV, hp, hpn, ec, eA⟩ := same9 q3 k2 k1 k5 m1
        subst eA
        have hk := k024_5 q4
        have mb := mb_all hV hp m19.2.2.2 hpn hk
        obtain ⟨F, P, Q, Ds, qs, d1, d2, d3, d4, rfl⟩ := q6
        obtain ⟨A', sg', hO, hall⟩ := mb.1 j q5 ⟨F, P, Q, d1, d2, d3⟩
        obtain ⟨-, f, hf⟩ := hall F P Q d1 d2
        obtain ⟨r, r1, r2⟩ := m2 A' sg' (by rw [ec]; exact hO)
        exact ⟨r, r1, jn9 q3.2.2.1 hp hpn m19.2.2.2 k4 hk hO q5 d1 d2 d3 hf d4 r2⟩
  intro C hC
  obtain ⟨i, hi, e⟩ := List.getElem_of_mem hC
  exact key i i C (Nat.le_refl _) (by rw [List.getElem?_eq_getElem hi, e])
theorem rows_le : ∀ (L : List (List Nat)), L.Nodup → (∀ r, r ∈ L → ∃ C, C ∈ Cs ∧ crP C r) → L.length ≤ Cs.length := by
  have key : ∀ (L : List (List Nat)), L.Nodup → (∀ r, r ∈ L → ∃ C, C ∈ Cs ∧ crP C r) → ∃ Ds : List cdT, Ds.length = L.length ∧ Ds.Nodup ∧ ∀ D, D ∈ Ds → D ∈ Cs ∧ ∃ r, r ∈ L ∧ crP D r := by
    intro L
    induction L with
    | nil => exact fun _ _ => ⟨[], rfl, List.nodup_nil, fun D hD => absurd hD List.not_mem_nil⟩
    | cons r L ih =>
      intro hn hL
      obtain ⟨n1, n2⟩ := List.nodup_cons.mp hn
      obtain ⟨Ds, d1, d2, d3⟩ := ih n2 (fun s hs => hL s (List.mem_cons_of_mem _ hs))
      obtain ⟨C, c1, c2⟩ := hL r List.mem_cons_self
      refine ⟨C :: Ds, by rw [List.length_cons, List.length_cons, d1], List.nodup_cons.mpr ⟨fun h9 => ?_, d2⟩, fun D hD => ?_⟩
      · obtain ⟨-, s, s1, s2⟩ := d3 C h9
        rw [crR_r (crP_R c2) (crP_R s2)] at n1
        exact n1 s1
      · rcases List.mem_cons.mp hD with e | hD
        · rw [e]
          exact ⟨c1, r, List.mem_cons_self, c2⟩
        · obtain ⟨a1, s, s1, s2⟩ := d3 D hD
          exact ⟨a1, s, List.mem_cons_of_mem _ s1, s2⟩
  intro L hn hL
  obtain ⟨Ds, d1, d2, d3⟩ := key L hn hL
  have := nodup_le Ds Cs d2 (fun D hD => (d3 D hD).1)
  omega
theorem codes_le (hl : Cs.length = os.length) (ho : ∀ (j s : Nat), os[j]? = some s → s < Cs.length) (hs : sts Cs os) (h : ∀ C, C ∈ Cs → ∃ r, r ∈ Ls ∧ crP C r) : os.length ≤ Ls.length := by
  have key : ∀ n, n ≤ os.length → ∃ Rs : List (List Nat), Rs.length = n ∧ Rs.Nodup ∧ ∀ r, r ∈ Rs → r ∈ Ls ∧ ∃ k, k < n ∧ crP (atC Cs os k) r := by
    intro n
    induction n with
    | zero => exact fun _ => ⟨[], rfl, List.nodup_nil, fun D hD => absurd hD List.not_mem_nil⟩
    | succ n ih =>
      intro hn
      obtain ⟨Rs, d1, d2, d3⟩ := ih (by omega)
      obtain ⟨r, c1, c2⟩ := h _ (at_in hl ho (k := n) (by omega))
      refine ⟨r :: Rs, by rw [List.length_cons, d1], List.nodup_cons.mpr ⟨fun h9 => ?_, d2⟩, fun D hD => ?_⟩
      · obtain ⟨-, k, k1, k2⟩ := d3 r h9
        have e := crR_c (crP_R k2) (crP_R c2)
        have h7 := hs k n k1 (by omega)
        rw [e, cmpC_rf] at h7
        omega
      · rcases List.mem_cons.mp hD with e | hD
        · rw [e]
          exact ⟨c1, n, by omega, c2⟩
        · obtain ⟨a1, k, k1, k2⟩ := d3 D hD
          exact ⟨a1, k, by omega, k2⟩
  obtain ⟨Rs, d1, d2, d3⟩ := key _ (Nat.le_refl _)
  have := nodup_le Rs Ls d2 (fun r hr => (d3 r hr).1)
  omega
end XS3
section XS4
variable {vl : Nat → Nat} {y : ow_MS} {St : plT} {x : Int32}
def sc9 (y : ow_MS) (St : plT) (e : Nat) (C0 : cdT) (r : Nat × Int32 × ow_MS) : Prop := ∃ Cs os, Cs.length = os.length ∧ (∀ (j s : Nat), os[j]? = some s → s < Cs.length) ∧ sts Cs os ∧ 0 < os.length ∧ genC Cs C0 ∧ (os.length ≤ 300 → cloC Cs) ∧ (300 < os.length ∧ r.2.1 = -2 ∧ fr (coP 13000) y r.2.2 ∨ os.length ≤ 300 ∧ r.2.1 = nI e ∧ fr (fun g => cW 1000 g ∨ coP 13000 g) y r.2.2 ∧ ∀ B sgB, clC sgB B = atC Cs os 0 → relC r.2.2 (upP St e (some (B, sgB))))
theorem xc_simplify (hN : gM y) (hC : relC y St) (hS : okS St) : Te (fun K => ce_X11_simplify vl K 0 x y) (fun r => (r.1 = 1 ∧ r.2.2 = y ∧ ∀ d, d < 40 → x = nI d → St d = none) ∨ ∃ d A sg c, d < 40 ∧ x = nI d ∧ St d = some (A, sg) ∧ okL A c ∧ A ≠ [] ∧ plnA A sg ∧ (r.1 = 3 ∧ r.2.2 = y ∧ allF St ∨ ∃ e, lstF St e ∧ r.1 = 0 ∧ sc9 y St e (clC sg A) r)) := by
  refine e_X11_simplify ?_; unfold cm_X11_simplify_0
  refine w_tc0 (xc_need hN.1.1 hC hS) ?_ ?_
  · rintro y1 ⟨h1, rfl⟩
    rcases h1 with h1 | ⟨-, d, A, sg, c, hd, rfl, hSt, hs, hA, hne, hpl⟩
    · exact absurd (show (0 : Nat) = 1 from h1.1) (by decide)
    · refine w_tc1 (xc_free hN.1.1 hC hS) ?_ ?_
      · rintro v y2 ⟨h2, rfl⟩
        rcases h2 with h2 | ⟨-, e, rfl, hlf⟩
        · exact absurd (show (0 : Nat) = 3 from h2.1) (by decide)
        · refine w_cs0 (xc_reach hN hd hs hA) ?_
          rintro y3 ⟨g1, g2, Cs, os, g3, g4, g5, g6, g7⟩
          have hl := g3.2.2.2.1
          have hCl : Cs.length = os.length := g3.1.2.1
          refine w_rdF g3.1.1 (w_le (b := 300) (by omega) (by omega) (fun h300 => ?_) (fun h300 => w_some (Or.inr ⟨d, A, sg, c, hd, rfl, hSt, hA, hne, hpl, Or.inr ⟨e, hlf, rfl, Cs, os, hCl, tabC_os g3.1, g4, g5, g6, g7, Or.inl ⟨h300, rfl, g2⟩⟩⟩)))
          obtain ⟨s, s1, s2, s3, s4⟩ := tab_at g3.1 g5
          have hC3 : relC y3 St := relC_fr g2 (fun q hq h9 => by unfold cW at hq; unfold coP cV at h9; omega) hC
          refine w_crI (tH_4 tH13) nI_0.symm (show 0 < 301 by omega) s2 (w_cs0 (tc_write ch_1000 tH13 (by omega) hlf.1 (show s < 301 by omega) s3 s4 g3.2.2.2.2) ?_)
          rintro y4 ⟨w1, w2, w3, w4⟩
          refine w_some (Or.inr ⟨d, A, sg, c, hd, rfl, hSt, hA, hne, hpl, Or.inr ⟨e, hlf, rfl, Cs, os, hCl, tabC_os g3.1, g4, g5, g6, g7, Or.inr ⟨h300, rfl, fr_tr (fr_mono (fun g hg => Or.inr hg) g2) (fr_mono (fun g hg => Or.inl hg) w4), fun B sgB eB => ?_⟩⟩⟩)
          rw [← eB] at w1
          exact relC_put g1.1.1 hC3 hS w1 w2
      · rintro a v y2 ha ⟨h2, rfl⟩
        rcases h2 with h2 | h2
        · exact w_some (Or.inr ⟨d, A, sg, c, hd, rfl, hSt, hA, hne, hpl, Or.inl ⟨h2.1, rfl, h2.2⟩⟩)
        · exact absurd h2.1 ha
  · rintro a y1 ha ⟨h1, rfl⟩
    rcases h1 with h1 | h1
    · exact w_some (Or.inl ⟨h1.1, rfl, h1.2⟩)
    · exact absurd h1.1 ha
end XS4
section XS5
variable {X : (Nat → Nat → Int32) → Prop} {z y : ow_MS} {vl : Nat → Nat} {x : Int32}
theorem c_simplify (h : rel3 X z y) : Te (fun K => qe_X13_simplify K x z) (fun rr => Te (fun K => ce_X11_simplify vl K 0 x y) (fun rc => rel3 X rr.2 rc.2.2 ∧ ansI [(1, 1), (2, 3)] rr rc)) := by
  obtain ⟨⟨St, k⟩, hM, h2⟩ := id h
  refine te_two (xq_simplify k.1 k.2.2.1) (te_and (tc_simplify (x := x) hM) (xc_simplify hM k.2.2.2.1 k.2.2.2.2)) (fun rr rc hr ⟨⟨hG, _⟩, hc⟩ => ?_)
  have same : ∀ {j k9 : Nat}, rFl X z j rr → (j, k9) ∈ [(1, 1), (2, 3)] → rc.1 = k9 → rc.2.2 = y → rel3 X rr.2 rc.2.2 ∧ ansI [(1, 1), (2, 3)] rr rc := fun hf hm e1 e2 => both_3 h (bo_fail k hf hm e1 (by rw [e2]; exact k.2.1) (by rw [e2]; exact fr_rf) (by rw [e2]; exact k.2.2.2.1))
  rcases hr with ⟨r1, r2⟩ | ⟨d, A, sg, hd, rfl, hSt, hr⟩
  · rcases hc with ⟨c1, c2, -⟩ | ⟨d, A, sg, c, hd, hx, hSt, -⟩
    · exact same r1 (by simp) c1 c2
    · rw [r2 d hd hx] at hSt
      cases hSt
  · rcases hc with ⟨-, -, c2⟩ | ⟨d', A', sg', c, hd', hx, hSt', hA, hne, hpl, hc⟩
    · rw [c2 d hd rfl] at hSt
      cases hSt
    · have ed := nI_inj9 (a := d) (b := d') (by omega) (by omega) hx
      subst ed
      rw [hSt] at hSt'
      cases hSt'
      rcases hr with ⟨r1, r2⟩ | ⟨e, he, Ls, l1, l2, hr⟩
      · rcases hc with ⟨c1, c2, -⟩ | ⟨e, he, -⟩
        · exact same r1 (by simp) c1 c2
        · exact (all_lst r2 he).elim
      · rcases hc with ⟨-, -, c2⟩ | ⟨e', he', c1, Cs, os, m1, m2, m3, m4, m5, m6, hc⟩
        · exact (all_lst c2 he).elim
        · have ee := lst_uni2 he he'
          subst ee
          have cnt1 : os.length ≤ 300 → Ls.length ≤ os.length := fun h9 => by
            have := rows_le (Cs := Cs) Ls l1 (row_code hA hne hpl l2 m5 (m6 h9))
            omega
          have cnt2 : cloR Ls → os.length ≤ Ls.length := fun h9 => codes_le m1 m2 m3 (code_row hA hne hpl l2 m5 h9)
          rcases hr with ⟨n1, n2, n3, n4, n5⟩ | ⟨n1, n2, B, sgB, n3, n4, n5, n6⟩
          · rcases hc with ⟨o1, o2, o3⟩ | ⟨o1, -⟩
            · exact ⟨⟨⟨St, n3, hG.1, relR_fr n5 (by unfold fB3; omega) k.2.2.1, relC_fr o3 (fun q hq h9 => by unfold cW at hq; unfold coP cV at h9; omega) k.2.2.2.1, k.2.2.2.2⟩, hG, rel2_h n5 o3 (fun g hg h9 => by unfold fB3 at hg; unfold r2Z at h9; omega) (fun g hg h9 => by unfold coP cV at hg; unfold r2Y at h9; omega) h2⟩, Or.inl ⟨n4, c1, by rw [n2, o2]⟩⟩
            · have := cnt1 o1
              omega
          · rcases hc with ⟨o1, -⟩ | ⟨o1, o2, o3, o4⟩
            · have := cnt2 n2
              omega
            · obtain ⟨C, hC, hCr⟩ := row_code hA hne hpl l2 m5 (m6 o1) _ n3
              obtain ⟨i, hi, ei⟩ := at_sur m1 m2 m3 hC
              have hmin : crP (atC Cs os 0) (tk sgB B) := by
                by_cases e0 : i = 0
                · rw [e0] at ei
                  rw [ei]
                  exact hCr
                · exfalso
                  obtain ⟨r0, q1, q2⟩ := code_row hA hne hpl l2 m5 n2 _ (at_in m1 m2 m4)
                  have h7 := m3 0 i (by omega) hi
                  rw [ei] at h7
                  have h8 := (crR_lt (crP_R q2) (crP_R hCr)).mpr h7
                  rw [n4 r0 q1] at h8
                  cases h8
              obtain ⟨A9, sg9, c9, t1, t2, t3, t4, t5⟩ := hmin
              obtain ⟨u1, u2⟩ := tk_inj A9 B (okL_u t1) n5 t3.symm
              subst u1
              obtain ⟨v1, v2, v3, v4, v5⟩ := n6 t4
              have eC : clC sgB A9 = atC Cs os 0 := by
                rw [t2]
                exact (clC_tk t1 t1).mpr t3
              have hpB : plnA A9 sgB := fun f9 T9 hV hp9 => t5 f9 T9 (isoV_sg hV u2) hp9
              exact ⟨⟨⟨_, v2, hG.1, v5, o4 A9 sgB eC, okS_put k.2.2.2.2 ⟨t4, hpB, c9, t1⟩⟩, hG, rel2_h v4 o3 (fun g hg h9 => by unfold fB3 at hg; unfold r2Z at h9; omega) (fun g hg h9 => by unfold cW coP cV at hg; unfold r2Y at h9; omega) h2⟩, Or.inl ⟨v3, c1, by rw [v1, o2]⟩⟩
end XS5
