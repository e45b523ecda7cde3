/-! what the class keeps are codes of their own lists -/
def cdNm (C : cdT) : Prop := ∃ A sg c, okL A c ∧ C = clC sg A ∧ nrm A sg
def NM (y : ow_MS) : Prop := nmC y ∧ (∀ Cs os, tbO y 2000 1848 Cs os → ∀ C, C ∈ Cs → cdNm C) ∧ ∀ Cs os, tbO y 3000 12 Cs os → ∀ C, C ∈ Cs → cdNm C
section XNM
variable {vl : Nat → Nat} {y y1 y3 : ow_MS} {St : plT} {P : Nat → Prop} {x x' : Int32} {e : Nat} {A A2 : rn_L} {sg sg' sg2 : Nat → Bool} {c : Nat}
theorem fr_sym (h : fr P y y1) : fr P y1 y := fun g hg => ⟨(h g hg).1.symm, (h g hg).2.1.symm, (h g hg).2.2.symm⟩
theorem nrm_sg (h : nrm A sg) (hA : okL A c) (e : clC sg' A = clC sg A) : nrm A sg' := by
  obtain ⟨T, g, Ds, qs, h1, h2, h3, h4, h5⟩ := h
  obtain ⟨-, -, q⟩ := clC_inj hA hA e
  exact ⟨T, g, Ds, qs, h1, h2, isoV_sg h3 (fun p hp => q p.1 ((hA.1.2 p).mp hp).1), h4, h5.trans e.symm⟩
theorem len_cl (hne : A ≠ []) : 0 < (clC sg A).2.length := by
  show 0 < (ucd sg 0 [] A).length
  rw [ucd_len]
  have := List.length_pos_iff.mpr hne
  omega
/-- a place of the class by the table of places -/
theorem pl_of9 (hC : relC y St) (hS : okS St) {d : Nat} (hd : d < 40) (hs : slC y 1000 d (clC sg A)) (hA : okL A c) (hne : A ≠ []) : ∃ sg2, St d = some (A, sg2) ∧ clC sg A = clC sg2 A := by
  have ok := (okL_c (sg := sg) hA).2
  have hl := len_cl (sg := sg) hne
  cases e : St d with
  | none =>
    have h9 := (hC d hd).1 e
    have h8 : y.2.1 1002 d = nI (clC sg A).2.length := hs.2.1
    rw [h8] at h9
    have := nI_inj9 (a := (clC sg A).2.length) (b := 0) (by have := ok.2.1; omega) (by omega) h9
    omega
  | some P =>
    obtain ⟨k1, k2, c', k3⟩ := hS d P.1 P.2 hd e
    have eC := slC_uni ok (okL_c k3).2 hs ((hC d hd).2 P.1 P.2 e)
    obtain ⟨q1, q2, q3⟩ := clC_inj hA k3 eC
    exact ⟨P.2, by rw [q1], by rw [eC, q1]⟩
/-- the same places -/
theorem nm_same (hC : relC y St) (hC1 : relC y1 St) (hS : okS St) (h : nmC y) : nmC y1 := by
  intro d A sg c hd hs hA hne
  obtain ⟨sg2, h1, h2⟩ := pl_of9 hC1 hS hd hs hA hne
  exact nrm_sg (h d A sg2 c hd ((hC d hd).2 A sg2 h1) hA hne) hA h2
/-- one place more -/
theorem nm_put (hC : relC y St) (hC1 : relC y1 (upP St e (some (A2, sg2)))) (hS : okS St) (hS1 : okS (upP St e (some (A2, sg2)))) (hn : nrm A2 sg2) (h : nmC y) : nmC y1 := by
  intro d A sg c hd hs hA hne
  obtain ⟨sg3, h1, h2⟩ := pl_of9 hC1 hS1 hd hs hA hne
  by_cases ed : d = e
  · subst ed
    rw [show upP St d (some (A2, sg2)) d = some (A2, sg2) from if_pos rfl] at h1
    cases h1
    exact nrm_sg hn hA h2
  · rw [show upP St e (some (A2, sg2)) d = St d from if_neg ed] at h1
    exact nrm_sg (h d A sg3 c hd ((hC d hd).2 A sg3 h1) hA hne) hA h2
theorem nm_kp {r : Int32 × ow_MS} (hN : dgC y) (hC : relC y St) (hS : okS St) (h : nmC y) (hk : cKp y e A2 sg2 r) : nmC r.2 := by
  obtain ⟨c1, c2, c3, ⟨T, f, Cs, os, t1, t2, t3, t4, t5, t6⟩, c4⟩ := hk
  have h6 : A2.length ≤ 6 := by
    have := iso_rge (isoS_iff.mp t3.1) t1.1
    have := t1.2.2.2
    omega
  obtain ⟨m, P, m1⟩ := mk_ex A2
  obtain ⟨A', sg', p1, p2, p3, p4, f', p5⟩ := enc_iso (isoS_iff.mp t3.1) h6 t1 m1 t5
  have hn : nrm A' sg' := ⟨T, f', Cs, os, t1, t2, p5, t5, p3⟩
  have hC1 : relC r.2 (upP St e (some (A', sg'))) := relC_put hN hC hS (by rw [← p3]; exact t6) c4
  intro d A sg c hd hs hA hne
  have ok := (okL_c (sg := sg) hA).2
  have hl := len_cl (sg := sg) hne
  by_cases ed : d = e
  · subst ed
    have hs2 := (hC1 d hd).2 A' sg' (if_pos rfl)
    have eC := slC_uni ok (okL_c p2).2 hs hs2
    obtain ⟨q1, q2, q3⟩ := clC_inj hA p2 eC
    subst q1
    exact nrm_sg hn hA eC
  · have eu : upP St e (some (A', sg')) d = St d := if_neg ed
    cases e9 : St d with
    | none =>
      have h9 := (hC1 d hd).1 (by rw [eu]; exact e9)
      have h8 : r.2.2.1 1002 d = nI (clC sg A).2.length := hs.2.1
      rw [h8] at h9
      have := nI_inj9 (a := (clC sg A).2.length) (b := 0) (by have := ok.2.1; omega) (by omega) h9
      omega
    | some Q =>
      obtain ⟨k1, k2, c', k3⟩ := hS d Q.1 Q.2 hd e9
      have hs2 := (hC1 d hd).2 Q.1 Q.2 (by rw [eu]; exact e9)
      have eC := slC_uni ok (okL_c k3).2 hs hs2
      obtain ⟨q1, q2, q3⟩ := clC_inj hA k3 eC
      subst q1
      exact nrm_sg (h d Q.1 Q.2 c' hd ((hC d hd).2 Q.1 Q.2 e9) k3 k1) hA eC
theorem NM_fr (hf : fr P y y1) (hP : ∀ g, P g → ¬ (1001 ≤ g ∧ g ≤ 1003 ∨ 2001 ≤ g ∧ g ≤ 2005 ∨ 3001 ≤ g ∧ g ≤ 3005)) (h : NM y) : NM y1 := by
  have hb := fr_sym hf
  obtain ⟨h1, h2, h3⟩ := h
  refine ⟨fun d A sg c hd hs hA hne => h1 d A sg c hd (slC_fr hb (fun q hq h9 => hP q h9 (by unfold cW at hq; omega)) hs) hA hne, fun Cs os ht => h2 Cs os (tbO_fr hb (fun q hq h9 => hP q h9 (by unfold cV at hq; omega)) ht), fun Cs os ht => h3 Cs os (tbO_fr hb (fun q hq h9 => hP q h9 (by unfold cV at hq; omega)) ht)⟩
/-- the lists, where a call changes the places alone -/
theorem NM_pl (hf : fr P y y1) (hP : ∀ g, P g → ¬ (2001 ≤ g ∧ g ≤ 2005 ∨ 3001 ≤ g ∧ g ≤ 3005)) (hn : nmC y1) (h : NM y) : NM y1 := by
  have hb := fr_sym hf
  exact ⟨hn, fun Cs os ht => h.2.1 Cs os (tbO_fr hb (fun q hq h9 => hP q h9 (by unfold cV at hq; omega)) ht), fun Cs os ht => h.2.2 Cs os (tbO_fr hb (fun q hq h9 => hP q h9 (by unfold cV at hq; omega)) ht)⟩
theorem tab_uni {g : Nat} {Cs Ds : List cdT} {os qs : List Nat} (h1 : tabC y g Cs os) (h2 : tabC y g Ds qs) (l1 : os.length < 2 ^ 31) (l2 : qs.length < 2 ^ 31) : Cs = Ds := by
  have hl : os.length = qs.length := nI_inj9 l1 l2 (h1.1.symm.trans h2.1)
  refine List.ext_getElem? (fun i => ?_)
  by_cases hi : i < Cs.length
  · have hi2 : i < Ds.length := by have := h1.2.1; have := h2.2.1; omega
    obtain ⟨a1, a2⟩ := h1.2.2.1 i _ (List.getElem?_eq_getElem hi)
    obtain ⟨b1, b2⟩ := h2.2.2.1 i _ (List.getElem?_eq_getElem hi2)
    rw [List.getElem?_eq_getElem hi, List.getElem?_eq_getElem hi2, slC_uni a2 b2 a1 b1]
  · rw [List.getElem?_eq_none (by omega), List.getElem?_eq_none (by have := h1.2.1; have := h2.2.1; omega)]
theorem mv_cdNm {R : ow_NT} {kd j : Nat} {C : cdT} (hR : nxC A sg c R) (hpl : plnA A sg) (hne : A ≠ []) (hk : kd < 5) (hj : j < mv_cnt R.1 kd) (hD : mvD kd R j C) : cdNm C := by
  obtain ⟨hV, hp, hpn, ec⟩ := nx_iso hR hpl
  have h6 := hR.1.2.2.2.2
  have mb := mb_all hV hp h6 hpn hk
  obtain ⟨F, P, Q, Ds, qs, d1, d2, d3, d4, rfl⟩ := hD
  obtain ⟨A', sg', hO, hall⟩ := mb.1 j hj ⟨F, P, Q, d1, d2, d3⟩
  obtain ⟨-, f, hf⟩ := hall F P Q d1 d2
  obtain ⟨m, Pp, hmk⟩ := mk_ex A'
  obtain ⟨B, sB, cB, o1, o2, -, -, -, o6⟩ := jnN9 hR.2.2.1 hp hpn h6 hne hk hO hj d1 d2 d3 hf d4 ⟨m, Pp, hmk, rfl⟩
  exact ⟨B, sB, cB, o1, o2, o6⟩
end XNM
section XNC
variable {X : (Nat → Nat → Int32) → Prop} {vl : Nat → Nat} {z y : ow_MS} {x x' : Int32}
theorem nm_mirror (h : rel3 X z y) (hm : nmC y) : Te (fun K => ce_X11_mirror vl K 0 x y) (fun r => nmC r.2.2) := by
  obtain ⟨⟨St, k⟩, -⟩ := id h
  refine w_monoE (xc_mirror k.2.1 k.2.2.2.1 k.2.2.2.2) (fun r hr => ?_)
  rcases hr with ⟨-, -, -, q, -⟩ | ⟨d, A, sg, hd, -, hSt, hr⟩
  · exact nm_same k.2.2.2.1 q k.2.2.2.2 hm
  · rcases hr with ⟨-, -, -, q, -⟩ | ⟨-, e, he, q⟩
    · exact nm_same k.2.2.2.1 q k.2.2.2.2 hm
    · exact nm_kp k.2.1.1 k.2.2.2.1 k.2.2.2.2 hm q
theorem nm_change (h : rel3 X z y) (hm : nmC y) : Te (fun K => ce_X11_change vl K 0 x x' y) (fun r => nmC r.2.2) := by
  obtain ⟨⟨St, k⟩, -⟩ := id h
  refine w_monoE (xc_change k.2.1 k.2.2.2.1 k.2.2.2.2) (fun r hr => ?_)
  rcases hr with ⟨-, -, -, q, -⟩ | ⟨d, A, sg, hd, -, hSt, hr⟩
  · exact nm_same k.2.2.2.1 q k.2.2.2.2 hm
  · rcases hr with ⟨-, -, -, q, -⟩ | ⟨k9, -, -, hr⟩
    · exact nm_same k.2.2.2.1 q k.2.2.2.2 hm
    · rcases hr with ⟨-, -, -, q, -⟩ | ⟨-, e, he, q⟩
      · exact nm_same k.2.2.2.1 q k.2.2.2.2 hm
      · exact nm_kp k.2.1.1 k.2.2.2.1 k.2.2.2.2 hm q
theorem nm_reverse (h : rel3 X z y) (hm : nmC y) : Te (fun K => ce_X11_reverse vl K 0 x x' y) (fun r => nmC r.2.2) := by
  obtain ⟨⟨St, k⟩, -⟩ := id h
  refine w_monoE (xc_reverse k.2.1 k.2.2.2.1 k.2.2.2.2) (fun r hr => ?_)
  rcases hr with ⟨-, -, -, q, -⟩ | ⟨d, A, sg, hd, -, hSt, hr⟩
  · exact nm_same k.2.2.2.1 q k.2.2.2.2 hm
  · rcases hr with ⟨-, -, -, q, -⟩ | ⟨-, hr⟩
    · exact nm_same k.2.2.2.1 q k.2.2.2.2 hm
    · rcases hr with ⟨-, -, -, q, -⟩ | ⟨-, e, he, q⟩
      · exact nm_same k.2.2.2.1 q k.2.2.2.2 hm
      · exact nm_kp k.2.1.1 k.2.2.2.1 k.2.2.2.2 hm q
theorem nm_apart (h : rel3 X z y) (hm : nmC y) : Te (fun K => ce_X11_apart vl K 0 x x' y) (fun r => nmC r.2.2) := by
  obtain ⟨⟨St, k⟩, -⟩ := id h
  refine w_monoE (xc_apart k.2.1 k.2.2.2.1 k.2.2.2.2) (fun r hr => ?_)
  rcases hr with ⟨-, -, -, q, -⟩ | ⟨d, A, sg, e, B, sg', hd, -, hSt, -, -, -, hr⟩
  · exact nm_same k.2.2.2.1 q k.2.2.2.2 hm
  · rcases hr with ⟨-, -, -, q, -⟩ | ⟨-, -, hr⟩
    · exact nm_same k.2.2.2.1 q k.2.2.2.2 hm
    · rcases hr with ⟨-, -, -, q, -⟩ | ⟨-, f, hf, q⟩
      · exact nm_same k.2.2.2.1 q k.2.2.2.2 hm
      · exact nm_kp k.2.1.1 k.2.2.2.1 k.2.2.2.2 hm q
theorem nm_smooth (h : rel3 X z y) (hm : nmC y) : Te (fun K => ce_X11_smooth vl K 0 x x' y) (fun r => nmC r.2.2) := by
  obtain ⟨⟨St, k⟩, -⟩ := id h
  refine w_monoE (xc_smooth k.2.1 k.2.2.2.1 k.2.2.2.2) (fun r hr => ?_)
  rcases hr with ⟨-, -, -, q, -⟩ | ⟨d, A, sg, hd, -, hSt, hr⟩
  · exact nm_same k.2.2.2.1 q k.2.2.2.2 hm
  · rcases hr with ⟨-, -, -, q, -⟩ | ⟨k9, v, w, -, -, -, hr⟩
    · exact nm_same k.2.2.2.1 q k.2.2.2.2 hm
    · rcases hr with ⟨-, -, -, q, -⟩ | ⟨-, hr⟩
      · exact nm_same k.2.2.2.1 q k.2.2.2.2 hm
      · rcases hr with ⟨-, -, -, q, -⟩ | ⟨-, e, he, q⟩
        · exact nm_same k.2.2.2.1 q k.2.2.2.2 hm
        · exact nm_kp k.2.1.1 k.2.2.2.1 k.2.2.2.2 hm q
theorem nm_join {v0 w0 : Int32} (h : rel3 X z y) (hm : nmC y) : Te (fun K => ce_X11_join vl K 0 x v0 x' w0 y) (fun r => nmC r.2.2) := by
  obtain ⟨⟨St, k⟩, -⟩ := id h
  refine w_monoE (xc_join k.2.1 k.2.2.2.1 k.2.2.2.2) (fun r hr => ?_)
  rcases hr with ⟨-, -, -, q, -⟩ | ⟨A, sg, B, sg', v, w, -, hr⟩
  · exact nm_same k.2.2.2.1 q k.2.2.2.2 hm
  · rcases hr with ⟨-, -, -, q, -⟩ | ⟨-, -, hr⟩
    · exact nm_same k.2.2.2.1 q k.2.2.2.2 hm
    · rcases hr with ⟨-, -, -, q, -⟩ | ⟨-, f, hf, q⟩
      · exact nm_same k.2.2.2.1 q k.2.2.2.2 hm
      · exact nm_kp k.2.1.1 k.2.2.2.1 k.2.2.2.2 hm q
theorem nm_eq {y1 : ow_MS} (e : y1 = y) (hm : nmC y) : nmC y1 := by
  rw [e]
  exact hm
theorem nm_closure (h : rel3 X z y) (hm : nmC y) : Te (fun K => ce_X11_closure vl K 0 x y) (fun r => nmC r.2.2) := by
  obtain ⟨⟨St, k⟩, -, h2⟩ := id h
  have hB := h2.2.2.1
  have hb := h2.2.1
  rcases br_cs k.1 x with hn | ⟨b, n, l, hb20, rfl, hh⟩
  · exact w_monoE (xc_closure0 (St := St) k.2.1 k.2.2.2.1 hB (noB_iff hb hn)) (fun r hr => nm_eq hr.2 hm)
  · obtain ⟨w, lp, w1, w2, w3, w4⟩ := ltX_of hh hb20 hb
    obtain ⟨rr, -, hr⟩ := xq_closure k.1 k.2.2.1 hb20 hh w1
    have p1 := hh.1
    have p2 := hh.2.1
    have p3 := hh.2.2.1
    have lo : ∀ {Rs : List (List Nat)}, (∀ e, lstF St e → clQ w n l Rs ∧ ∀ s, s < n → s ∈ Rs.flatten) ∨ 12 < l → Te (fun K => ce_X11_closure vl K 0 (nI b) y) (fun r => nmC r.2.2) := by
      intro Rs hq
      refine w_monoE (xc_closure (Rs := Rs) k.2.1 k.2.2.2.1 k.2.2.2.2 hB hb20 p1 p2 w3 p3 w4 w2) (fun rc hc => ?_)
      rcases hc with ⟨-, c2, -⟩ | ⟨c3, hc⟩
      · exact nm_eq c2 hm
      · rcases hc with ⟨-, c2, -⟩ | ⟨c0, f, c1, c2⟩
        · exact nm_eq c2 hm
        · rcases hq with hq | hq
          · exact nm_kp k.2.1.1 k.2.2.2.1 k.2.2.2.2 hm (c2 (hq f c1).1 (hq f c1).2)
          · omega
    rcases hr with ⟨-, r2⟩ | ⟨r0, hr⟩
    · exact lo (Rs := []) (Or.inr r2)
    · rcases hr with ⟨-, r2⟩ | ⟨e, Rs, z4, r1, r2, r3, r4, r5, r6⟩
      · exact lo (Rs := []) (Or.inl (fun e he => (all_lst r2 he).elim))
      · exact lo (Rs := Rs) (Or.inl (fun e he => ⟨r2, r4⟩))
theorem nm_diagram (h : rel3 X z y) (hm : nmC y) : Te (fun K => ce_X11_diagram vl K 0 y) (fun r => nmC r.2.2) := by
  obtain ⟨⟨St, k⟩, hM, h2⟩ := id h
  obtain ⟨t, t1, t2, t3, t4⟩ := id h2.1
  obtain ⟨R, hR⟩ : ∃ R, rdF9 (fun k => z.2.1 10 k) t (t + 1) 0 [] [] [] = R := ⟨_, rfl⟩
  have hbc : ∀ k, k < t → y.2.1 11002 k = (fun k => z.2.1 10 k) k := fun k hk => (t4 k hk).symm
  refine w_monoE (xc_diagram (St := St) hM k.2.2.2.1 k.2.2.2.2 t1 t3 hbc hR) (fun r hr => ?_)
  rcases hr with ⟨-, c2, -⟩ | ⟨-, -, e, he, hc⟩
  · exact nm_eq c2 hm
  · cases hRR : R with
    | inl j =>
      rw [hRR] at hc
      exact nm_same k.2.2.2.1 hc.2 k.2.2.2.2 hm
    | inr q =>
      obtain ⟨nm, A⟩ := q
      rw [hRR] at hc
      rcases hc with ⟨a, -, -, c4⟩ | ⟨-, T, -, -, -, hc⟩
      · exact nm_same k.2.2.2.1 c4 k.2.2.2.2 hm
      · rcases hc with ⟨-, -, c4⟩ | ⟨-, y3, d3, c3, c4⟩
        · exact nm_same k.2.2.2.1 c4 k.2.2.2.2 hm
        · exact nm_kp d3 c3 k.2.2.2.2 (nm_same k.2.2.2.1 c3 k.2.2.2.2 hm) c4
theorem nm_drop (h : rel3 X z y) (hm : nmC y) : Te (fun K => ce_X11_drop vl K 0 x y) (fun r => nmC r.2) := by
  refine w_monoE (tc_drop2 h.2.1) (fun r hr => ?_)
  rcases hr.2 with ⟨-, d, A, sg, c, hd, -, -, -, -, e⟩ | ⟨-, -, e⟩
  · rw [e]
    intro d' A' sg' c' hd' hs hA hne
    have ok := (okL_c (sg := sg') hA).2
    have hl := len_cl (sg := sg') hne
    by_cases ed : d' = d
    · have h8 : (usI y 1002 d 0).2.1 1002 d' = nI (clC sg' A').2.length := hs.2.1
      rw [ed, po_usI_at] at h8
      have := nI_inj9 (a := 0) (b := (clC sg' A').2.length) (by omega) (by have := ok.2.1; omega) h8
      omega
    · refine hm d' A' sg' c' hd' ⟨?_, ?_, fun i a hi => ?_⟩ hA hne
      · have := hs.1
        exact (rd_ot (show (1000 + 3 : Nat) ≠ 1002 by omega) rfl).symm.trans this
      · have := hs.2.1
        exact (rd_ne ed rfl).symm.trans this
      · have := hs.2.2 i a hi
        exact (rd_ot (show (1000 + 1 : Nat) ≠ 1002 by omega) rfl).symm.trans this
  · exact nm_eq e hm
/-- moved, summand: copied out of a list -/
theorem nm_copy {g p : Nat} {Ms : List (rn_L × (Nat → Bool))} (h : rel3 X z y) (hm : nmC y) (hg : tH g p) (hg2 : g = 2000 ∨ g = 3000) (hM : rlC g p y Ms) (hO : okM Ms) (hL : ∀ Cs os, tbO y g p Cs os → ∀ C, C ∈ Cs → cdNm C) : Te (fun K => ce_X11_copyOut vl K 0 g x y) (fun r => nmC r.2.2) := by
  obtain ⟨⟨St, k⟩, hG, h2⟩ := id h
  refine w_monoE (xc_copyOut hg hg2 hM hO hG k.2.2.2.1 k.2.2.2.2) (fun r hr => ?_)
  rcases hr.2 with ⟨-, e, -⟩ | ⟨j, A, sg, hj, -, hr⟩
  · exact nm_eq e hm
  · rcases hr with ⟨-, e, -⟩ | ⟨-, e, he, -, -, hC1⟩
    · exact nm_eq e hm
    · obtain ⟨Cs, os, t1, t2, t3⟩ := hM
      have hjl := (List.getElem?_eq_some_iff.mp hj).1
      obtain ⟨A3, s3, c3, o1, o2, o3⟩ := hL Cs os t1 _ (at_in t1.1.2.1 (tabC_os t1.1) (k := j) (by omega))
      obtain ⟨k1, k2, c, k3⟩ := hO j A sg hj
      have eC : clC sg A = clC s3 A3 := (t3 j A sg hj).symm.trans o2
      obtain ⟨q1, q2, q3⟩ := clC_inj k3 o1 eC
      subst q1
      exact nm_put k.2.2.2.1 hC1 k.2.2.2.2 (okS_put k.2.2.2.2 ⟨k1, k2, c, k3⟩) (nrm_sg o3 k3 eC) hm
theorem nm_simplify (h : rel3 X z y) (hm : nmC y) : Te (fun K => ce_X11_simplify vl K 0 x y) (fun r => nmC r.2.2) := by
  obtain ⟨⟨St, k⟩, hM, h2⟩ := id h
  refine w_monoE (xc_simplify hM k.2.2.2.1 k.2.2.2.2) (fun r hr => ?_)
  rcases hr with ⟨-, e, -⟩ | ⟨d, A, sg, c, hd, -, hSt, hA, hne, hpl, hr⟩
  · exact nm_eq e hm
  · rcases hr with ⟨-, e, -⟩ | ⟨e, he, -, Cs, os, l1, l2, l3, l4, hg, hcl, hr⟩
    · exact nm_eq e hm
    · rcases hr with ⟨-, -, hf⟩ | ⟨l5, -, hf, hC1⟩
      · exact nm_same k.2.2.2.1 (relC_fr hf (fun q hq h9 => by unfold cW at hq; unfold coP cV at h9; omega) k.2.2.2.1) k.2.2.2.2 hm
      · have hn0 : nrm A sg := hm d A sg c hd ((k.2.2.2.1 d hd).2 A sg hSt) hA hne
        have key : ∀ (n i : Nat) C, i ≤ n → Cs[i]? = some C → ∃ B sB cB, okL B cB ∧ C = clC sB B ∧ nrm B sB ∧ B ≠ [] ∧ plnA B sB := by
          intro n
          induction n with
          | zero =>
            intro i C hi hC
            have e0 : i = 0 := by omega
            rw [e0, hg.1] at hC
            cases hC
            exact ⟨A, sg, c, hA, rfl, hn0, hne, hpl⟩
          | succ n ih =>
            intro i C hi hC
            rcases hg.2 i C hC with e0 | ⟨i', A1, sg1, c1, R, kd, j, q1, q2, q3, q4, q5, q6⟩
            · exact ih i C (by omega) hC
            · obtain ⟨B, sB, cB, b1, b2, b3, b4, b5⟩ := ih i' _ (by omega) q2
              obtain ⟨e1, e2, e3⟩ := clC_inj q3.1 b1 b2
              subst e1
              have hpl1 : plnA A1 sg1 := fun f9 T9 h9 hp9 => b5 f9 T9 (isoV_sg h9 (fun p hp => (e3 p.1 ((q3.1.1.2 p).mp hp).1).symm)) hp9
              have hk := k024_5 q4
              obtain ⟨hV, hp, hpn, ec⟩ := nx_iso q3 hpl1
              have mb := mb_all hV hp q3.1.2.2.2.2 hpn hk
              obtain ⟨F, P, Q, Ds, qs, d1, d2, d3, d4, rfl⟩ := q6
              obtain ⟨A', sg', hO, hall⟩ := mb.1 j q5 ⟨F, P, Q, d1, d2, d3⟩
              obtain ⟨-, f, hf9⟩ := hall F P Q d1 d2
              obtain ⟨m, Pp, hmk⟩ := mk_ex A'
              obtain ⟨B2, sB2, cB2, o1, o2, -, o4, o5, o6⟩ := jnN9 q3.2.2.1 hp hpn q3.1.2.2.2.2 b4 hk hO q5 d1 d2 d3 hf9 d4 ⟨m, Pp, hmk, rfl⟩
              exact ⟨B2, sB2, cB2, o1, o2, o6, o4, o5⟩
        obtain ⟨i, hi, ei⟩ := List.getElem_of_mem (at_in l1 l2 l4)
        obtain ⟨B, sB, cB, b1, b2, b3, b4, b5⟩ := key i i _ (Nat.le_refl _) (by rw [List.getElem?_eq_getElem hi, ei])
        exact nm_put k.2.2.2.1 (hC1 B sB b2.symm) k.2.2.2.2 (okS_put k.2.2.2.2 ⟨b4, b5, cB, b1⟩) b3 hm
end XNC
