/-! both sides of a call answer the same, and the places stay related -/
def rel1 (X : (Nat → Nat → Int32) → Prop) (z y : ow_MS) (St : plT) : Prop := gI X z ∧ gN y ∧ relR z St ∧ relC y St ∧ okS St
def ansI (em : List (Nat × Nat)) (rr : Int32 × ow_MS) (rc : Nat × Int32 × ow_MS) : Prop := rr.2.1 1 = 0 ∧ rc.1 = 0 ∧ rr.1 = rc.2.1 ∨ ∃ j k, (j, k) ∈ em ∧ rr.2.1 1 = nI j ∧ rc.1 = k
def bothI (em : List (Nat × Nat)) (X : (Nat → Nat → Int32) → Prop) (z y : ow_MS) (rr : Int32 × ow_MS) (rc : Nat × Int32 × ow_MS) : Prop := (∃ St, rel1 X rr.2 rc.2.2 St) ∧ fr rPk z rr.2 ∧ fr uP y rc.2.2 ∧ ansI em rr rc
theorem te_two {O P : Type} {f : Nat → Option O} {g : Nat → Option P} {Q : O → Prop} {R : P → Prop} {M : O → P → Prop} (h1 : Te f Q) (h2 : Te g R) (H : ∀ a b, Q a → R b → M a b) : Te f (fun a => Te g (fun b => M a b)) := w_monoE h1 (fun a ha => w_monoE h2 (fun b hb => H a b ha hb))
theorem rPs_k {g : Nat} (h : rPs g) : rPk g := h.elim Or.inl (fun h9 => Or.inr (Or.inr h9))
section XB
variable {X : (Nat → Nat → Int32) → Prop} {z y : ow_MS} {St : plT} {em : List (Nat × Nat)} {rr : Int32 × ow_MS} {rc : Nat × Int32 × ow_MS}
theorem bo_fail {j k : Nat} (h : rel1 X z y St) (hr : rFl X z j rr) (hm : (j, k) ∈ em) (e : rc.1 = k) (hN : gN rc.2.2) (hf : fr uP y rc.2.2) (hC : relC rc.2.2 St) : bothI em X z y rr rc := ⟨⟨St, hr.1, hN, relR_fr hr.2.2 (by unfold rPs rSc; omega) h.2.2.1, hC, h.2.2.2.2⟩, fr_mono (fun g hg => rPs_k hg) hr.2.2, hf, Or.inr ⟨j, k, hm, hr.2.1, e⟩⟩
theorem bo_val (h : rel1 X z y St) (hr : rOk X z rr) (e : rc.1 = 0) (ev : rr.1 = rc.2.1) (hN : gN rc.2.2) (hf : fr uP y rc.2.2) (hC : relC rc.2.2 St) : bothI em X z y rr rc := ⟨⟨St, hr.1, hN, relR_fr hr.2.2 (by unfold rPs rSc; omega) h.2.2.1, hC, h.2.2.2.2⟩, fr_mono (fun g hg => rPs_k hg) hr.2.2, hf, Or.inl ⟨hr.2.1, e, ev⟩⟩
theorem lst_uni2 {e f : Nat} (h1 : lstF St e) (h2 : lstF St f) : e = f := by
  rcases Nat.lt_trichotomy e f with q | q | q
  · exact absurd h1.2.1 (h2.2.2 e q)
  · exact q
  · exact absurd h2.2.1 (h1.2.2 f q)
theorem all_lst {e : Nat} (h1 : allF St) (h2 : lstF St e) : False := h1 e h2.1 h2.2.1
theorem bo_keep {e f : Nat} {A2 : rn_L} {sg2 : Nat → Bool} (h : rel1 X z y St) (he : lstF St e) (hf : lstF St f) (h6 : A2.length ≤ 6) (hne : A2 ≠ []) (e0 : rc.1 = 0) (hc : cKp y f A2 sg2 rc.2) (hr : rKp X z e A2 sg2 rr) : bothI em X z y rr rc := by
  have ef := lst_uni2 hf he
  subst ef
  obtain ⟨k1, A', sg', k2, k3, k4⟩ := kp_join h.2.1.1 h.2.2.2.1 h.2.2.1 h.2.2.2.2 hf h6 hne hc hr
  exact ⟨⟨_, hr.1, hc.2.1, k3, k2, k4⟩, hr.2.2.2.1, hc.2.2.1, Or.inl ⟨hr.2.2.1, e0, k1.symm⟩⟩
theorem okS_6 (h : rel1 X z y St) {d : Nat} {A : rn_L} {sg : Nat → Bool} (hd : d < 40) (hs : St d = some (A, sg)) : A ≠ [] ∧ A.length ≤ 6 ∧ wkF A.flatten := by
  obtain ⟨k1, k2, c, k3⟩ := h.2.2.2.2 d A sg hd hs
  exact ⟨k1, k3.2.2.2.2, okF_wk (by have := k3.2.2.2.1; omega) k3.1⟩
variable {vl : Nat → Nat} {x x' : Int32}
theorem b_mirror (h : rel1 X z y St) : Te (fun K => qe_X13_mirror K x z) (fun rr => Te (fun K => ce_X11_mirror vl K 0 x y) (fun rc => bothI [(1, 1), (2, 3)] X z y rr rc)) := by
  refine te_two (xq_mirror h.1 h.2.2.1) (xc_mirror h.2.1 h.2.2.2.1 h.2.2.2.2) (fun rr rc hr hc => ?_)
  rcases hr with ⟨r1, r2⟩ | ⟨d, A, sg, d1, d2, d3, hr⟩
  · rcases hc with ⟨c1, c2, c3, c4, -⟩ | ⟨d, A, sg, d1, d2, d3, -⟩
    · exact bo_fail h r1 (by simp) c1 c2 c3 c4
    · rw [r2 d d1 d2] at d3
      cases d3
  · rcases hc with ⟨-, -, -, -, c5⟩ | ⟨d', A', sg', d1', d2', d3', hc⟩
    · rw [c5 d d1 d2] at d3
      cases d3
    · obtain ⟨q1, q2⟩ := pl_uni d1' d1 d2' d2 d3' d3
      subst q1
      subst q2
      obtain ⟨n1, n2, -⟩ := okS_6 h d1 d3
      rcases hr with ⟨r1, r2⟩ | ⟨e, r1, r2⟩
      · rcases hc with ⟨c1, c2, c3, c4, -⟩ | ⟨-, f, c1, -⟩
        · exact bo_fail h r1 (by simp) c1 c2 c3 c4
        · exact (all_lst r2 c1).elim
      · rcases hc with ⟨-, -, -, -, c5⟩ | ⟨c0, f, c1, c2⟩
        · exact (all_lst c5 r1).elim
        · exact bo_keep h r1 c1 (by rw [List.length_map]; exact n2) (fun e9 => n1 (List.map_eq_nil_iff.mp e9)) c0 c2 r2
theorem b_change (h : rel1 X z y St) : Te (fun K => qe_X13_change K x x' z) (fun rr => Te (fun K => ce_X11_change vl K 0 x x' y) (fun rc => bothI [(1, 1), (2, 3)] X z y rr rc)) := by
  refine te_two (xq_change h.1 h.2.2.1) (xc_change h.2.1 h.2.2.2.1 h.2.2.2.2) (fun rr rc hr hc => ?_)
  rcases hr with ⟨r1, r2⟩ | ⟨d, A, sg, d1, d2, d3, hr⟩
  · rcases hc with ⟨c1, c2, c3, c4, -⟩ | ⟨d, A, sg, d1, d2, d3, -⟩
    · exact bo_fail h r1 (by simp) c1 c2 c3 c4
    · rw [r2 d d1 d2] at d3
      cases d3
  · rcases hc with ⟨-, -, -, -, c5⟩ | ⟨d', A', sg', d1', d2', d3', hc⟩
    · rw [c5 d d1 d2] at d3
      cases d3
    · obtain ⟨q1, q2⟩ := pl_uni d1' d1 d2' d2 d3' d3
      subst q1
      subst q2
      obtain ⟨n1, n2, n3⟩ := okS_6 h d1 d3
      rcases hr with ⟨r1, r2⟩ | ⟨k, k1, k2, hr⟩
      · rcases hc with ⟨c1, c2, c3, c4, -⟩ | ⟨k, k1, k2, -⟩
        · exact bo_fail h r1 (by simp) c1 c2 c3 c4
        · exact absurd k2 (r2 k k1)
      · rcases hc with ⟨-, -, -, -, c5⟩ | ⟨k', k1', k2', hc⟩
        · exact absurd k2 (c5 k k1)
        · obtain ⟨c, hc12, -⟩ := h.2.2.2.2 d A' sg' d1 d3
          obtain ⟨cc, hcc⟩ := (h.2.2.2.2 d A' sg' d1 d3).2.2
          have l24 := okF_len hcc.1
          have l12 := hcc.2.2.2.1
          have ek : k = k' := nI_inj9 (by omega) (by omega) (k2.symm.trans k2')
          subst ek
          rcases hr with ⟨r1, r2⟩ | ⟨e, r1, r2⟩
          · rcases hc with ⟨c1, c2, c3, c4, -⟩ | ⟨-, f, c1, -⟩
            · exact bo_fail h r1 (by simp) c1 c2 c3 c4
            · exact (all_lst r2 c1).elim
          · rcases hc with ⟨-, -, -, -, c5⟩ | ⟨c0, f, c1, c2⟩
            · exact (all_lst c5 r1).elim
            · exact bo_keep h r1 c1 (by rw [List.length_map]; exact n2) (fun e9 => n1 (List.map_eq_nil_iff.mp e9)) c0 c2 r2
theorem b_reverse (h : rel1 X z y St) : Te (fun K => qe_X13_reverse K x x' z) (fun rr => Te (fun K => ce_X11_reverse vl K 0 x x' y) (fun rc => bothI [(1, 1), (2, 3)] X z y rr rc)) := by
  refine te_two (xq_reverse h.1 h.2.2.1) (xc_reverse h.2.1 h.2.2.2.1 h.2.2.2.2) (fun rr rc hr hc => ?_)
  rcases hr with ⟨r1, r2⟩ | ⟨d, A, sg, d1, d2, d3, hr⟩
  · rcases hc with ⟨c1, c2, c3, c4, -⟩ | ⟨d, A, sg, d1, d2, d3, -⟩
    · exact bo_fail h r1 (by simp) c1 c2 c3 c4
    · rw [r2 d d1 d2] at d3
      cases d3
  · rcases hc with ⟨-, -, -, -, c5⟩ | ⟨d', A', sg', d1', d2', d3', hc⟩
    · rw [c5 d d1 d2] at d3
      cases d3
    · obtain ⟨q1, q2⟩ := pl_uni d1' d1 d2' d2 d3' d3
      subst q1
      subst q2
      obtain ⟨n1, n2, n3⟩ := okS_6 h d1 d3
      rcases hr with ⟨r1, r2⟩ | ⟨ok, hr⟩
      · rcases hc with ⟨c1, c2, c3, c4, -⟩ | ⟨ok, -⟩
        · exact bo_fail h r1 (by simp) c1 c2 c3 c4
        · exact absurd ok r2
      · rcases hc with ⟨-, -, -, -, c5⟩ | ⟨-, hc⟩
        · exact absurd ok c5
        · rcases hr with ⟨r1, r2⟩ | ⟨e, r1, r2⟩
          · rcases hc with ⟨c1, c2, c3, c4, -⟩ | ⟨-, f, c1, -⟩
            · exact bo_fail h r1 (by simp) c1 c2 c3 c4
            · exact (all_lst r2 c1).elim
          · rcases hc with ⟨-, -, -, -, c5⟩ | ⟨c0, f, c1, c2⟩
            · exact (all_lst c5 r1).elim
            · have lr : (rvX (tauC x') A' A'.length).length = A'.length := by
                unfold rvX
                rw [List.length_map, List.length_range]
              refine bo_keep h r1 c1 (by rw [lr]; exact n2) (fun e9 => n1 ?_) c0 c2 r2
              rw [e9] at lr
              exact List.length_eq_zero_iff.mp lr.symm
theorem b_smooth (h : rel1 X z y St) : Te (fun K => qe_X13_smooth K x x' z) (fun rr => Te (fun K => ce_X11_smooth vl K 0 x x' y) (fun rc => bothI [(1, 1), (2, 4), (3, 3)] X z y rr rc)) := by
  refine te_two (xq_smooth h.1 h.2.2.1) (xc_smooth h.2.1 h.2.2.2.1 h.2.2.2.2) (fun rr rc hr hc => ?_)
  rcases hr with ⟨r1, r2⟩ | ⟨d, A, sg, d1, d2, d3, hr⟩
  · rcases hc with ⟨c1, c2, c3, c4, -⟩ | ⟨d, A, sg, d1, d2, d3, -⟩
    · exact bo_fail h r1 (by simp) c1 c2 c3 c4
    · rw [r2 d d1 d2] at d3
      cases d3
  · rcases hc with ⟨-, -, -, -, c5⟩ | ⟨d', A', sg', d1', d2', d3', hc⟩
    · rw [c5 d d1 d2] at d3
      cases d3
    · obtain ⟨q1, q2⟩ := pl_uni d1' d1 d2' d2 d3' d3
      subst q1
      subst q2
      obtain ⟨n1, n2, n3⟩ := okS_6 h d1 d3
      rcases hr with ⟨r1, r2⟩ | ⟨k, v, w, k1, k2, k3, hr⟩
      · rcases hc with ⟨c1, c2, c3, c4, -⟩ | ⟨k, v, w, k1, k2, -⟩
        · exact bo_fail h r1 (by simp) c1 c2 c3 c4
        · exact absurd k2 (r2 k k1)
      · rcases hc with ⟨-, -, -, -, c5⟩ | ⟨k', v', w', k1', k2', k3', hc⟩
        · exact absurd k2 (c5 k k1)
        · obtain ⟨cc, hcc⟩ := (h.2.2.2.2 d A' sg' d1 d3).2.2
          have l24 := okF_len hcc.1
          have l12 := hcc.2.2.2.1
          have ek : k = k' := nI_inj9 (by omega) (by omega) (k2.symm.trans k2')
          subst ek
          obtain ⟨e1, e2⟩ := sm2_uni n3.1 k3 k3'
          subst e1
          subst e2
          rcases hr with ⟨r1, r2⟩ | ⟨h6, hr⟩
          · rcases hc with ⟨c1, c2, c3, c4, -⟩ | ⟨c6, -⟩
            · exact bo_fail h r1 (by simp) c1 c2 c3 c4
            · omega
          · rcases hc with ⟨-, -, -, -, c5⟩ | ⟨-, hc⟩
            · omega
            · rcases hr with ⟨r1, r2⟩ | ⟨e, r1, r2⟩
              · rcases hc with ⟨c1, c2, c3, c4, -⟩ | ⟨-, f, c1, -⟩
                · exact bo_fail h r1 (by simp) c1 c2 c3 c4
                · exact (all_lst r2 c1).elim
              · rcases hc with ⟨-, -, -, -, c5⟩ | ⟨c0, f, c1, c2⟩
                · exact (all_lst c5 r1).elim
                · refine bo_keep h r1 c1 h6 (fun e9 => ?_) c0 c2 r2
                  have e9 := congrArg List.length e9
                  unfold smV at e9
                  rw [List.length_map] at e9
                  unfold smC at e9
                  split at e9
                  · simp only [List.length_append, List.length_cons, List.length_nil] at e9
                    omega
                  · simp only [List.length_append, List.length_cons, List.length_nil] at e9
                    omega
theorem b_apart (h : rel1 X z y St) : Te (fun K => qe_X13_apart K x x' z) (fun rr => Te (fun K => ce_X11_apart vl K 0 x x' y) (fun rc => bothI [(1, 1), (2, 4), (3, 3)] X z y rr rc)) := by
  refine te_two (xq_apart h.1 h.2.2.1) (xc_apart h.2.1 h.2.2.2.1 h.2.2.2.2) (fun rr rc hr hc => ?_)
  rcases hr with ⟨r1, r2⟩ | ⟨d, A, sg, e, B, sgB, d1, d2, d3, e1, e2, e3, hr⟩
  · rcases hc with ⟨c1, c2, c3, c4, -⟩ | ⟨d, A, sg, e, B, sgB, d1, d2, d3, e1, e2, e3, -⟩
    · exact bo_fail h r1 (by simp) c1 c2 c3 c4
    · rcases r2 with r2 | r2
      · rw [r2 d d1 d2] at d3
        cases d3
      · rw [r2 e e1 e2] at e3
        cases e3
  · rcases hc with ⟨-, -, -, -, c5⟩ | ⟨d', A', sg', e', B', sgB', d1', d2', d3', e1', e2', e3', hc⟩
    · rcases c5 with c5 | c5
      · rw [c5 d d1 d2] at d3
        cases d3
      · rw [c5 e e1 e2] at e3
        cases e3
    · obtain ⟨q1, q2⟩ := pl_uni d1' d1 d2' d2 d3' d3
      subst q1
      subst q2
      obtain ⟨q1, q2⟩ := pl_uni e1' e1 e2' e2 e3' e3
      subst q1
      subst q2
      obtain ⟨n1, n2, n3⟩ := okS_6 h d1 d3
      rcases hr with ⟨r1, r2⟩ | ⟨r3, r4, hr⟩
      · rcases hc with ⟨c1, c2, c3, c4, -⟩ | ⟨c3, c4, -⟩
        · exact bo_fail h r1 (by simp) c1 c2 c3 c4
        · omega
      · rcases hc with ⟨-, -, -, -, c5⟩ | ⟨-, -, hc⟩
        · omega
        · rcases hr with ⟨r1, r2⟩ | ⟨f, r1, r2⟩
          · rcases hc with ⟨c1, c2, c3, c4, -⟩ | ⟨-, f, c1, -⟩
            · exact bo_fail h r1 (by simp) c1 c2 c3 c4
            · exact (all_lst r2 c1).elim
          · rcases hc with ⟨-, -, -, -, c5⟩ | ⟨c0, g, c1, c2⟩
            · exact (all_lst c5 r1).elim
            · exact bo_keep h r1 c1 (by rw [List.length_append]; unfold shN; rw [List.length_map]; exact r4) (fun e9 => n1 (List.append_eq_nil_iff.mp e9).1) c0 c2 r2
theorem b_join {v0 w0 : Int32} (h : rel1 X z y St) : Te (fun K => qe_X13_join K x v0 x' w0 z) (fun rr => Te (fun K => ce_X11_join vl K 0 x v0 x' w0 y) (fun rc => bothI [(1, 1), (2, 4), (3, 3)] X z y rr rc)) := by
  refine te_two (xq_join h.1 h.2.2.1) (xc_join h.2.1 h.2.2.2.1 h.2.2.2.2) (fun rr rc hr hc => ?_)
  rcases hr with ⟨r1, r2⟩ | ⟨A, sg, B, sgB, v, w, hG, hr⟩
  · rcases hc with ⟨c1, c2, c3, c4, -⟩ | ⟨A, sg, B, sgB, v, w, hG, -⟩
    · exact bo_fail h r1 (by simp) c1 c2 c3 c4
    · exact absurd hG (r2 _ _ _ _ _ _)
  · rcases hc with ⟨-, -, -, -, c5⟩ | ⟨A', sg', B', sgB', v', w', hG', hc⟩
    · exact absurd hG (c5 _ _ _ _ _ _)
    · obtain ⟨⟨d, d1, d2, d3⟩, ⟨e, e1, e2, e3⟩, v1, v2, w1, w2⟩ := hG
      obtain ⟨⟨d', d1', d2', d3'⟩, ⟨e', e1', e2', e3'⟩, v1', v2', w1', w2'⟩ := hG'
      obtain ⟨q1, q2⟩ := pl_uni d1' d1 d2' d2 d3' d3
      subst q1
      subst q2
      obtain ⟨q1, q2⟩ := pl_uni e1' e1 e2' e2 e3' e3
      subst q1
      subst q2
      obtain ⟨n1, n2, n3⟩ := okS_6 h d1 d3
      obtain ⟨m1, m2, m3⟩ := okS_6 h e1 e3
      obtain ⟨cc, hcc⟩ := (h.2.2.2.2 d A' sg' d1 d3).2.2
      obtain ⟨cd, hcd⟩ := (h.2.2.2.2 e B' sgB' e1 e3).2.2
      have l24 := okF_len hcc.1
      have l12 := hcc.2.2.2.1
      have l25 := okF_len hcd.1
      have l13 := hcd.2.2.2.1
      have ev : v = v' := nI_inj9 (by omega) (by omega) (v2.symm.trans v2')
      subst ev
      have ew : w = w' := nI_inj9 (by omega) (by omega) (w2.symm.trans w2')
      subst ew
      rcases hr with ⟨r1, r2⟩ | ⟨r3, r4, hr⟩
      · rcases hc with ⟨c1, c2, c3, c4, -⟩ | ⟨c3, c4, -⟩
        · exact bo_fail h r1 (by simp) c1 c2 c3 c4
        · omega
      · rcases hc with ⟨-, -, -, -, c5⟩ | ⟨-, -, hc⟩
        · omega
        · rcases hr with ⟨r1, r2⟩ | ⟨f, r1, r2⟩
          · rcases hc with ⟨c1, c2, c3, c4, -⟩ | ⟨-, f, c1, -⟩
            · exact bo_fail h r1 (by simp) c1 c2 c3 c4
            · exact (all_lst r2 c1).elim
          · rcases hc with ⟨-, -, -, -, c5⟩ | ⟨c0, g, c1, c2⟩
            · exact (all_lst c5 r1).elim
            · have pl := (jo_perm (A := A') (B := B') (s := A'.flatten.length / 2) v1 w1).2
              have p1 := List.length_pos_iff.mpr n1
              have p2 := List.length_pos_iff.mpr m1
              refine bo_keep h r1 c1 (by omega) (fun e9 => ?_) c0 c2 r2
              rw [e9] at pl
              have pl : 0 + 1 = A'.length + B'.length := pl
              omega
end XB
