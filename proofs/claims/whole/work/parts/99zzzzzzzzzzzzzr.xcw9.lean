/-! conway: the class, and both sides -/
/-- the class's last numbers -/
def cwK (y : ow_MS) : Prop := ∃ C, slC y 25000 0 C ∧ cOK C ∧ (C.2 = [] ∨ ∃ A sg c, C = clC sg A ∧ okL A c ∧ cwC y (skV 13 A sg))
section XCH
variable {vl : Nat → Nat} {y : ow_MS} {St : plT} {x x' : Int32}
theorem cwK_fr {P : Nat → Prop} {y1 : ow_MS} (hf : fr P y y1) (hP : ∀ g, P g → ¬ (g = 24003 ∨ 25001 ≤ g ∧ g ≤ 25003)) (h : cwK y) : cwK y1 := by
  obtain ⟨C, c1, c2, c3⟩ := h
  refine ⟨C, slC_fr hf (fun q hq h9 => hP q h9 (by unfold cW at hq; omega)) c1, c2, c3.imp id (fun ⟨A, sg, c, q1, q2, q3⟩ => ⟨A, sg, c, q1, q2, cwC_fr hf (fun h9 => hP _ h9 (by omega)) q3⟩)⟩
theorem xc_unfoldCode {g' p' s' c : Nat} {A : rn_L} {sg : Nat → Bool} (hg' : tH g' p') (hd : g' + 6 ≤ 24000) (hs' : s' < p') (hb : slC y g' s' (clC sg A)) (hA : okL A c) (hby : byR y (g' + 1)) (hn : nrm A sg) (hl : lvS y) (hK : cwK y) : Te (fun K => ce_X8_unfoldCode vl K 24000 g' (nI s') y) (fun y1 => slC y1 25000 0 (clC sg A) ∧ cwC y1 (skV 13 A sg)) := by
  obtain ⟨C, c1, c2, c3⟩ := hK
  have hFw : wkF A.flatten := okF_wk (by have := hA.2.2.2.1; omega) hA.1
  refine e_X8_unfoldCode ?_; unfold cm_X8_unfoldCode_0
  refine w_cs1 (tc_isKnown2 (s := 0) (by omega) hg' (by omega) hs' hb (okL_c hA).2 hby c1 c2) ?_
  rintro v y1 ⟨h1, -, -, f1⟩
  dsimp only at h1 f1
  rcases h1 with ⟨rfl, rfl, eC, hlen⟩ | ⟨rfl, h1⟩
  · refine w_ifF (by decide) (w_some ⟨by rw [← eC]; exact c1, ?_⟩)
    rcases c3 with e | ⟨A', sg', c', q1, q2, q3⟩
    · rw [e] at hlen
      exact absurd hlen (by decide)
    · obtain ⟨u1, u2, u3⟩ := clC_inj hA q2 (eC.symm.trans q1)
      subst u1
      exact cwC_cg q3 (fun t _ => sk_sg 13 A sg' sg t hFw (fun p hp => (u3 p.1 ((hA.1.2 p).mp hp).1).symm))
  · have f1s : fr skP y y1 := fr_mono (fun g hg => by unfold cW at hg; unfold skP; omega) f1
    have l1 : lvS y1 := fun j hj => by
      obtain ⟨T, t1, t2⟩ := hl j hj
      exact ⟨T, cAt_fr f1 (fun g hg h9 => by unfold cP lv at hg; unfold cW at h9; omega) t1, t2⟩
    refine w_ifT rfl (w_cs0 (tc_fillA ch_24003 (by omega)) ?_)
    rintro y2 ⟨z2, f2⟩
    refine w_cs0 (tc_fillA ch_24004 (by omega)) ?_
    rintro y3 ⟨-, f3⟩
    have hc3 : cwC y3 (fun _ => 0) := cwC_fr f3 (by decide) (fun t ht => z2 t ht)
    have f13a : fr (fun g => g = 24003 ∨ g = 24004) y1 y3 := fr_tr (fr_mono (fun g hg => by omega) f2) (fr_mono (fun g hg => by omega) f3)
    have l3 : lvS y3 := fun j hj => by
      obtain ⟨T, t1, t2⟩ := l1 j hj
      exact ⟨T, cAt_fr f13a (fun g hg h9 => by unfold cP lv at hg; omega) t1, t2⟩
    obtain ⟨T, t1, t2⟩ := l3 0 (by omega)
    have s3 : slC y3 g' s' (clC sg A) := slC_fr (fr_tr f1s (fr_mono (fun g hg => by unfold skP; omega) f13a)) (fun q hq h9 => by unfold cW at hq; unfold skP at h9; omega) hb
    refine w_crX (j := 0) rfl (by omega) (w_cs0 (tc_load3 (lv_nH (L := 0) (by omega)) hg' (Or.inr (by omega)) hs' hA s3 t1 t2) ?_)
    rintro y4 ⟨⟨T1, q1, q2, q3, q4⟩, f4⟩
    have n4 := q1.2.2.1
    have l4 : lvS y4 := lvS_fr (L := 0) f4 (fun g hg => Or.inl (cL_in hg)) ⟨T1, q1.1, n4.2.2.1⟩ l3
    have hpm : pm1 T1 := fun x hx => by
      rw [q4 x (by omega)]
      cases sg x
      · exact Or.inl rfl
      · exact Or.inr rfl
    have hu : uL A sg (fun x => x) T1 := ⟨isoV_of q1.2.1 n4.1, hpm, fun h9 => by
      obtain ⟨b1, b2⟩ := nrm_base hn h9
      refine ⟨b1, ?_⟩
      unfold lbv crs uns
      rw [b2]
      rfl⟩
    have hun : Te (fun K => ce_X8_unfold vl K 24000 0 1 0 0 y4) (fun z1 => (lvS z1 ∧ fr (unP 0) y4 z1) ∧ cwC z1 (fun t => 0 + 1 * shf 0 (skV 13 A sg) t)) := xc_unfD 12 0 rfl T1 A sg (fun x => x) 1 (fun _ => 0) 0 y4 l4 q1.1 ⟨n4.1, n4.2.1, n4.2.2.1, by have := n4.2.2.2; omega⟩ (by have := n4.2.1; omega) hu (cwC_fr f4 (fun h9 => by have := cL_in h9; unfold lv at this; omega) hc3)
    refine w_cs0 hun ?_
    rintro y5 ⟨⟨l5, f5⟩, c5⟩
    have f15 : fr (fun g => 24003 ≤ g ∧ g ≤ 24004 ∨ 26001 ≤ g ∧ g ≤ 38011) y1 y5 := fr_tr (fr_mono (fun g hg => by omega) f13a) (fr_tr (fr_mono (fun g hg => by have := cL_in hg; unfold lv at this; omega) f4) (fr_mono (fun g hg => by unfold unP at hg; omega) f5))
    refine w_some ⟨slC_fr f15 (fun q hq h9 => by unfold cW at hq; omega) h1, cwC_cg c5 (fun t _ => ?_)⟩
    unfold shf
    rw [if_pos (Nat.zero_le _), Nat.sub_zero, Int.one_mul, Int.zero_add]
theorem xc_conway (hM : gM y) (hC : relC y St) (hS : okS St) (hK : cwK y) (hm : NM y) : Te (fun K => ce_X11_conway vl K 0 x x' y) (fun r => cwK r.2.2 ∧ ((r.1 = 1 ∧ r.2.2 = y ∧ ∀ d, d < 40 → x = nI d → St d = none) ∨ ∃ d A sg c, d < 40 ∧ x = nI d ∧ St d = some (A, sg) ∧ okL A c ∧ r.1 = 0 ∧ cwN9 A sg x' r.2.1)) := by
  refine e_X11_conway ?_; unfold cm_X11_conway_0
  refine w_tc0 (xc_need hM.1.1 hC hS) ?_ ?_
  · rintro y1 ⟨h1, rfl⟩
    rcases h1 with h1 | ⟨-, d, A, sg, c, hd, rfl, hSt, hs, hA, hne, hpl⟩
    · exact absurd (show (0 : Nat) = 1 from h1.1) (by decide)
    · have hFw : wkF A.flatten := okF_wk (by have := hA.2.2.2.1; omega) hA.1
      refine w_cs0 (xc_unfoldCode ch_1000 (by omega) hd hs hA hM.1.1.1 (hm.1 d A sg c hd hs hA hne) (lvS_ns hM.1.2.1) hK) ?_
      rintro y2 ⟨k2, k3⟩
      refine w_cs1 tc_conwayAt ?_
      rintro v z ⟨e2, a1, a2⟩
      dsimp only at e2 a1 a2
      rw [e2]
      refine w_some ⟨⟨_, k2, (okL_c hA).2, Or.inr ⟨A, sg, c, rfl, hA, k3⟩⟩, Or.inr ⟨d, A, sg, c, hd, rfl, hSt, hA, rfl, fun k hk e => ?_, fun h9 => a2 (fun k hk => h9 k (by omega))⟩⟩
      by_cases h13 : k < 13
      · rw [a1 k h13 e]
        exact k3 k h13
      · rw [a2 (fun k' hk' e' => by
          have := nI_inj9 (a := k) (b := k') (by omega) (by omega) (e.symm.trans e')
          omega), sk_deg 13 A sg k hFw (by have := okF_len hA.1; have := hA.2.2.2.1; omega)]
        rfl
  · rintro a y1 ha ⟨h1, rfl⟩
    rcases h1 with h1 | h1
    · exact w_some ⟨hK, Or.inl ⟨h1.1, rfl, h1.2⟩⟩
    · exact absurd h1.1 ha
end XCH
section XCI
variable {X : (Nat → Nat → Int32) → Prop} {z y : ow_MS} {vl : Nat → Nat} {x x' : Int32}
theorem cwN_sg {A : rn_L} {sg sg' : Nat → Bool} {c : Nat} {v : Int32} (hA : okL A c) (e : tk sg A = tk sg' A) (h : cwN9 A sg x v) : cwN9 A sg' x v := by
  have hFw : wkF A.flatten := okF_wk (by have := hA.2.2.2.1; omega) hA.1
  obtain ⟨-, u2⟩ := tk_inj A A (okL_u hA) (okL_u hA) e
  exact ⟨fun k k1 k2 => by rw [← sk_sg 13 A sg sg' k hFw u2]; exact h.1 k k1 k2, h.2⟩
theorem c_conway (h : rel3 X z y) (hk : knC y) (hm : NM y) (hz : cwR z) (hy : cwK y) : Te (fun K => qe_X13_conway K x x' z) (fun rr => Te (fun K => ce_X11_conway vl K 0 x x' y) (fun rc => (rel3 X rr.2 rc.2.2 ∧ ansI [(1, 1)] rr rc) ∧ cwR rr.2 ∧ cwK rc.2.2 ∧ knC rc.2.2 ∧ fr skP y rc.2.2)) := by
  obtain ⟨⟨St, k⟩, hM, h2⟩ := id h
  refine te_two (te_and (te_fo (tp_conway (d := x) (k := x') k.1) (fun K => ff_X13_conway)) (xq_conway k.1 k.2.2.1 k.2.2.2.2 hz)) (te_and (tc_conway (x := x) (x' := x') hM hk) (xc_conway hM k.2.2.2.1 k.2.2.2.2 hy hm)) (fun rr rc ⟨⟨hgI, fR⟩, jr, hr⟩ ⟨⟨hG, hk2, hf⟩, jc, hc⟩ => ?_)
  have hC : relC rc.2.2 St := relC_fr hf (fun q hq h9 => by unfold cW at hq; unfold skP at h9; omega) k.2.2.2.1
  have h2' : rel2 rr.2 rc.2.2 := by
    obtain ⟨k1, k2, k3, ⟨Ns, q1, q2, q3⟩, Ms, q4, q5, q6⟩ := h2
    exact ⟨relT_k fR hf (by decide) (by unfold skP; omega) k1, relB_k fR hf (by decide) (by unfold skP; omega) k2, brC_fr hf (by unfold skP; omega) k3, ⟨Ns, rlR_k fR (by decide) q1, rlC_k hf (fun q hq => by unfold cV at hq; unfold skP; omega) q2, q3⟩, Ms, rlR_k fR (by decide) q4, rlC_k hf (fun q hq => by unfold cV at hq; unfold skP; omega) q5, q6⟩
  have fin : ansI [(1, 1)] rr rc → ((rel3 X rr.2 rc.2.2 ∧ ansI [(1, 1)] rr rc) ∧ cwR rr.2 ∧ cwK rc.2.2 ∧ knC rc.2.2 ∧ fr skP y rc.2.2) := fun ha => ⟨⟨⟨⟨St, hgI, hG.1, relR_fr fR (by decide) k.2.2.1, hC, k.2.2.2.2⟩, hG, h2'⟩, ha⟩, jr, jc, hk2, hf⟩
  rcases hr with ⟨r1, r2⟩ | ⟨e, A, sg, he, rfl, hSt, r2, sg9, c, r4, r5, r6⟩
  · rcases hc with ⟨c1, -⟩ | ⟨d, A, sg, c, hd, hx, hSt, -⟩
    · exact fin (Or.inr ⟨1, 1, by simp, r1.2.1, c1⟩)
    · rw [r2 d hd hx] at hSt
      cases hSt
  · rcases hc with ⟨-, -, c2⟩ | ⟨d, A', sg', c', hd, hx, hSt', hA', c1, hv⟩
    · rw [c2 e he rfl] at hSt
      cases hSt
    · have ed := nI_inj9 (a := e) (b := d) (by omega) (by omega) hx
      subst ed
      rw [hSt] at hSt'
      cases hSt'
      exact fin (Or.inl ⟨r2, c1, cwN_uni (cwN_sg hA' r4 r6) hv⟩)
end XCI
