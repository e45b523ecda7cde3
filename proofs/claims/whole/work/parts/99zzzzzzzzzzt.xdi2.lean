/-! both sides: diagram -/
/-- how the class's diagram ends; R what was read -/
def dgQ (St : plT) (y : ow_MS) (t : Nat) (R : rtO) (r : Nat × Int32 × ow_MS) : Prop := r.1 = 3 ∧ r.2.2 = y ∧ allF St ∨ r.1 = 0 ∧ r.2.2.1 11001 = 0 ∧ ∃ e, lstF St e ∧ match R with
  | .inl j => r.2.1 = -1 - nI j ∧ relC r.2.2 St
  | .inr (nm, A) => (∃ a, lonA nm A.flatten a ∧ r.2.1 = -1 - nI a ∧ relC r.2.2 St) ∨ (∀ k, ¬ lonK nm A.flatten k) ∧ ∃ T, isoN A (sgN nm) (fun x => x) T ∧ vn T.1 T.2.2.1 ∧ pm1 T ∧ (nt_plane T = false ∧ r.2.1 = -1 - nI t ∧ relC r.2.2 St ∨ nt_plane T = true ∧ ∃ y3, dgC y3 ∧ relC y3 St ∧ cKp y3 e A (sgN nm) r.2)
section XD2
variable {X : (Nat → Nat → Int32) → Prop} {z y : ow_MS} {St : plT} {vl : Nat → Nat} {bt : Nat → Int32} {t : Nat} {R : rtO}
theorem xc_diagram (hN : gM y) (hC : relC y St) (hS : okS St) (ht : t ≤ 400) (h11 : y.1 11001 = nI t) (hbt : ∀ k, k < t → y.2.1 11002 k = bt k) (hR : rdF9 bt t (t + 1) 0 [] [] [] = R) : Te (fun K => ce_X11_diagram vl K 0 y) (dgQ St y t R) := by
  -- the end
  have c1 : ∀ (y0 z : ow_MS) (e : Nat) (x2 : Int32), lstF St e → gM z → relC z St → (x2 ≠ -1 → ∀ r : Nat × Int32 × ow_MS, r.1 = 0 → r.2.2.1 11001 = 0 → r.2.1 = -1 - x2 → relC r.2.2 St → dgQ St y0 t R r) → (x2 = -1 → ∃ T A sg, cAt z 4000 T ∧ nv T ∧ isoN A sg (fun x => x) T ∧ pm1 T ∧ nt_plane T = true ∧ ∀ (r : Nat × Int32 × ow_MS) y3, r.1 = 0 → r.2.2.1 11001 = 0 → dgC y3 → relC y3 St → cKp y3 e A sg r.2 → dgQ St y0 t R r) → Tt (fun K t => c_X11_diagram vl K t 1 (nI e) x2 0 z) (dgQ St y0 t R) := by
    intro y0 z e x2 he h1 h2 hbad hgood
    refine u_X11_diagram_1 ?_; unfold cm_X11_diagram_1
    have f1 : fr (fun g => g = 11001) z (usF z (0 + 11000 + 1) 0) := fr_F rfl
    have hN1 : gN (usF z (0 + 11000 + 1) 0) := gN_F (g := 11001) (far_cP (by omega)) h1.1
    have hC1 : relC (usF z (0 + 11000 + 1) 0) St := relC_fr f1 (fun q hq h9 => by unfold cW at hq; omega) h2
    have t1 : (usF z (0 + 11000 + 1) 0).1 11001 = 0 := po_usF_at
    refine w_wrF (w_if (fun ex => ?_) (fun ex => w_some (hbad ex _ rfl t1 rfl hC1)))
    obtain ⟨T, A, sg, t2, t3, t4, t5, t6, hg⟩ := hgood ex
    refine w_cs1 (tc_keep hN1 he.1 (cAt_fr f1 (fun g hg h9 => by unfold cP at hg; omega) t2) t3) ?_
    rintro r z2 ⟨q0, q1, q2, ⟨Cs, os, q3, q4⟩, q5, -⟩
    refine w_some (hg (0, r, z2) _ rfl ?_ hN1.1 hC1 ⟨q0, q1, q2, ⟨T, _, Cs, os, t3, t5, isoV_of t4 t3.1, t6, q3, q4⟩, q5⟩)
    show z2.1 11001 = 0
    rw [(q2 11001 (by unfold uP; omega)).1]
    exact t1
  refine e_X11_diagram ?_
  refine u_X11_diagram_0 ?_; unfold cm_X11_diagram_0
  refine w_tc1 (xc_free hN.1.1 hC hS) ?_ ?_
  · rintro v y1 ⟨h2, rfl⟩
    rcases h2 with h2 | ⟨-, e, rfl, he⟩
    · exact absurd (show (0 : Nat) = 3 from h2.1) (by decide)
    · refine w_cs1 (te_and (tc_readDiagram h11 ht (hN.1.2.1 4000 nH4)) (xc_readDiagram h11 ht (hN.1.2.1 4000 nH4) hbt hR)) ?_
      rintro v y2 ⟨⟨f2, hT2, -⟩, e2⟩
      dsimp only at f2 hT2
      have u2 : ∀ g, rdP g → 4001 ≤ g ∧ g ≤ 4011 ∨ g = 6001 ∨ g = 6002 ∨ 11001 ≤ g ∧ g ≤ 11006 := fun g hg => by unfold rdP cP at hg; omega
      have hM2 : gM y2 := ⟨gN_d f2 u2 hT2 hN.1, tbs_fr f2 (fun g hg => by have := u2 g hg; omega) hN.2⟩
      have hC2 : relC y2 St := relC_fr f2 (fun q hq h9 => by have := u2 q h9; unfold cW at hq; omega) hC
      have en2 : y2.1 11001 = nI t := by
        rw [(f2 11001 (by unfold rdP cP; omega)).1]
        exact h11
      -- a fault
      have fault : ∀ j : Nat, j ≤ t → v = nI j → (∀ r : Nat × Int32 × ow_MS, r.1 = 0 → r.2.2.1 11001 = 0 → r.2.1 = -1 - nI j → relC r.2.2 St → dgQ St y1 t R r) → Tt (fun K k => if v = -1 then cs1 (ce_X4_isPlane vl K (0 + 6000) (0 + 4000) y2) fun v7 z6 => (if v7 = 0 then rdF z6 ((0 + 11000) + 1) fun v8 => c_X11_diagram vl K k 1 (nI e) v8 0 z6 else c_X11_diagram vl K k 1 (nI e) v 0 z6) else c_X11_diagram vl K k 1 (nI e) v 0 y2) (dgQ St y1 t R) := fun j hj hv hq => by
        rw [hv]
        exact w_ifF (nI_nm1 (by omega)) (c1 y1 y2 e (nI j) he hM2 hC2 (fun _ => hq) (fun h9 => absurd h9 (nI_nm1 (by omega))))
      cases hRR : R with
      | inl j =>
        rw [hRR] at e2 fault
        obtain ⟨e2, e3⟩ := e2
        have e2 : v = nI j := e2
        exact fault j e3 e2 (fun r r1 r2 r3 r4 => Or.inr ⟨r1, r2, e, he, r3, r4⟩)
      | inr q =>
        obtain ⟨nm, A⟩ := q
        rw [hRR] at e2 fault c1
        rcases e2 with ⟨a, a1, a2, a3⟩ | ⟨a1, a2, T, a3, a4, a5, a6⟩
        · have a3 : v = nI a := a3
          exact fault a (by omega) a3 (fun r r1 r2 r3 r4 => Or.inr ⟨r1, r2, e, he, Or.inl ⟨a, a2, r3, r4⟩⟩)
        · have a2 : v = -1 := a2
          have a3 : cAt y2 4000 T := a3
          rw [a2]
          refine w_ifT rfl (w_cs1 (tc_plane (f := 6000) nH4 (Or.inl rfl) (by omega) a3 a4.2.2.1 a4.1 a4.2.1) ?_)
          rintro w y3 ⟨e3, f3⟩
          dsimp only at f3
          have e3 : w = zI (nt_plane T) := e3
          have u3 : ∀ g, (cQ 4000 g ∨ cF 6000 g) → 4001 ≤ g ∧ g ≤ 4011 ∨ g = 6001 ∨ g = 6002 ∨ 11001 ≤ g ∧ g ≤ 11006 := fun g hg => by unfold cQ cF at hg; omega
          have t13 : cAt y3 4000 T := cAt_fr f3 (fun g hg h9 => by unfold cP at hg; unfold cQ cF at h9; omega) a3
          have hM3 : gM y3 := ⟨gN_d f3 u3 ⟨T, t13, a4.2.2.1⟩ hM2.1, tbs_fr f3 (fun g hg => by have := u3 g hg; omega) hM2.2⟩
          have hC3 : relC y3 St := relC_fr f3 (fun q hq h9 => by have := u3 q h9; unfold cW at hq; omega) hC2
          have en3 : y3.1 11001 = nI t := by
            rw [(f3 11001 (by unfold cQ cF; omega)).1]
            exact en2
          rw [e3]
          cases hpl : nt_plane T with
          | false =>
            refine w_ifT rfl (w_rdF en3 (c1 y1 y3 e (nI t) he hM3 hC3 (fun _ r r1 r2 r3 r4 => ?_) (fun h9 => absurd h9 (nI_nm1 (by omega)))))
            exact Or.inr ⟨r1, r2, e, he, Or.inr ⟨a1, T, a5, a4.1, a6, Or.inl ⟨hpl, r3, r4⟩⟩⟩
          | true =>
            refine w_ifF (by decide) (c1 y1 y3 e (-1) he hM3 hC3 (fun h9 => absurd rfl h9) (fun _ => ⟨T, A, sgN nm, t13, a4, a5, a6, hpl, fun r y5 r1 r2 r3 r4 r5 => ?_⟩))
            exact Or.inr ⟨r1, r2, e, he, Or.inr ⟨a1, T, a5, a4.1, a6, Or.inr ⟨hpl, y5, r3, r4, r5⟩⟩⟩
  · rintro a v y1 ha ⟨h2, rfl⟩
    rcases h2 with h2 | h2
    · exact w_some (Or.inl ⟨h2.1, rfl, h2.2⟩)
    · exact absurd h2.1 ha
/-- how the reference's diagram ends; T the net of what was read -/
def dgR (St : plT) (X : (Nat → Nat → Int32) → Prop) (z : ow_MS) (t : Nat) (R : rtO) (T : ow_NT) (r : Int32 × ow_MS) : Prop := rFl X z 1 r ∧ allF St ∨ r.2.1 1 = 0 ∧ r.2.1 11 = 0 ∧ ∃ e, lstF St e ∧ match R with
  | .inl j => r.1 = -1 - nI j ∧ relR r.2 St
  | .inr (nm, A) => A.length ≤ 6 ∧ A ≠ [] ∧ ((∃ a, lonA nm A.flatten a ∧ r.1 = -1 - nI a ∧ relR r.2 St) ∨ (∀ k, ¬ lonK nm A.flatten k) ∧ (nt_plane T = false ∧ r.1 = -1 - nI t ∧ relR r.2 St ∨ nt_plane T = true ∧ ∃ z3, relR z3 St ∧ rKp X z3 e A (sgN nm) r))
def dgF (g : Nat) : Prop := frV g ∨ g = 11 ∨ rPk g
theorem xq_diagram {T : ow_NT} (h : gI X z) (hRl : relR z St) (ht : t ≤ 400) (h11 : z.1 11 = nI t) (hbt : ∀ k, k < t → z.2.1 10 k = bt k) (hR : rdF9 bt t (t + 1) 0 [] [] [] = R) (hT : ∀ nm A e, lstF St e → R = .inr (nm, A) → (∀ k, ¬ lonK nm A.flatten k) → isoN A (sgN nm) (fun x => x) T ∧ vn T.1 T.2.2.1 ∧ pm1 T) : Te (fun K => qe_X13_diagram K z) (fun r => fr dgF z r.2 ∧ dgR St X z t R T r) := by
  have h1 := gI_1 (c := 0) h
  have hR1 := relR_1 (c := 0) hRl
  refine e_X13_diagram ?_; unfold qm_X13_diagram_0
  refine w_wrF (w_freeX hR1 (fun hall => w_ifT rfl (w_mono (w_failX (k := 1) h1 fr_1) (fun r hr => ⟨fr_mono (fun g hg => Or.inr (Or.inr (rPs_k hg))) hr.2.2, Or.inl ⟨hr, hall⟩⟩))) (fun e he => w_ifF (rn_neg1 (by have := he.1; omega)) (w_cs1 (xr_read (z := usF z 1 0) ht h11 hbt hR) ?_)))
  rintro v z2 ⟨f2, e2⟩
  dsimp only at f2
  have hI : gI X (usF z2 11 0) := gI_t (t := 0) rfl (by omega) (gI_fr f2 (fun g hg => by unfold frV at hg; unfold per; omega) h1)
  have fz : fr dgF z (usF z2 11 0) := fr_F2 (fr_tr (fr_F (P := dgF) (Or.inr (Or.inr (Or.inl rfl)))) (fr_mono (fun g hg => Or.inl hg) f2)) (Or.inr (Or.inl rfl))
  have hR2 : relR (usF z2 11 0) St := relR_fr (P := fun g => g = 11) (fr_F rfl) (by omega) (relR_fr f2 (by unfold frV; omega) hR1)
  have z1 : (usF z2 11 0).1 1 = 0 := rf_ot (by omega) (by rw [(f2 1 (by unfold frV; omega)).1]; exact po_usF_at)
  have z11 : (usF z2 11 0).1 11 = 0 := po_usF_at
  have fault : ∀ j : Nat, j ≤ t → v = nI j → (∀ r : Int32 × ow_MS, r.2.1 1 = 0 → r.2.1 11 = 0 → r.1 = -1 - nI j → relR r.2 St → dgR St X z t R T r) → Tt (fun K _ => if v = -1 then cs1 (qe_X13_keep K (usF z2 11 0)) fun v8 z7 => some (v8, z7) else some (-1 - v, usF z2 11 0)) (fun r => fr dgF z r.2 ∧ dgR St X z t R T r) := fun j hj hv hq => by
    rw [hv]
    exact w_ifF (nI_nm1 (by omega)) (w_some ⟨fz, hq _ z1 z11 rfl hR2⟩)
  refine w_wrF ?_
  cases hRR : R with
  | inl j =>
    rw [hRR] at e2 fault
    obtain ⟨e2, e3⟩ := e2
    have e2 : v = nI j := e2
    exact fault j e3 e2 (fun r r1 r2 r3 r4 => Or.inr ⟨r1, r2, e, he, r3, r4⟩)
  | inr q =>
    obtain ⟨nm, A⟩ := q
    rw [hRR] at e2 fault
    obtain ⟨b1, b2, b3, e2⟩ := e2
    rcases e2 with ⟨a, a1, a2, a3⟩ | ⟨a1, a2, a3, a4⟩
    · have a3 : v = nI a := a3
      exact fault a (by omega) a3 (fun r r1 r2 r3 r4 => Or.inr ⟨r1, r2, e, he, b2, b3, Or.inl ⟨a, a2, r3, r4⟩⟩)
    · have hTT := hT nm A e he hRR a1
      have a4 : v = if nt_plane T = true then -1 else nI t := a4 ((fun x => x), T) hTT
      have a2 : rn_At z2 3000 A [] := a2
      have a3 : rn_sg z2 3000 A.flatten (sgN nm) := a3
      cases hpl : nt_plane T with
      | false =>
        rw [hpl] at a4
        have a4 : v = nI t := a4
        exact fault t (Nat.le_refl _) a4 (fun r r1 r2 r3 r4 => Or.inr ⟨r1, r2, e, he, b2, b3, Or.inr ⟨a1, Or.inl ⟨hpl, r3, r4⟩⟩⟩)
      | true =>
        rw [hpl] at a4
        have a4 : v = -1 := a4
        rw [a4]
        have hF := hTT.1.1
        have hlen := hTT.1.2.1
        have hc12 := hTT.1.2.2.1
        refine w_ifT rfl (w_mono (w_keepX (z0 := usF z2 11 0) hI hR2 he z1 fr_rf (fr_At (P := fun g => g = 11) (fr_F rfl) (fun g hg => by omega) a2) a3 hF (by omega) b2) (fun r hr => ⟨fr_tr fz (fr_mono (fun g hg => Or.inr (Or.inr hg)) hr.2.2.2.1), Or.inr ⟨hr.2.2.1, ?_, e, he, b2, b3, Or.inr ⟨a1, Or.inr ⟨hpl, usF z2 11 0, hR2, hr⟩⟩⟩⟩))
        rw [(hr.2.2.2.1 11 (by unfold rPk rSc; omega)).1]
        exact z11
/-- diagram answers the same -/
theorem b_diagram (h : rel1 X z y St) (hM : gM y) (hT : relT z y) : Te (fun K => qe_X13_diagram K z) (fun rr => Te (fun K => ce_X11_diagram vl K 0 y) (fun rc => (∃ St', rel1 X rr.2 rc.2.2 St') ∧ gM rc.2.2 ∧ relT rr.2 rc.2.2 ∧ fr dgF z rr.2 ∧ fr diP y rc.2.2 ∧ ansI [(1, 3)] rr rc)) := by
  obtain ⟨t, t1, t2, t3, t4⟩ := id hT
  obtain ⟨R, hR⟩ : ∃ R, rdF9 (fun k => z.2.1 10 k) t (t + 1) 0 [] [] [] = R := ⟨_, rfl⟩
  have hbc : ∀ k, k < t → y.2.1 11002 k = (fun k => z.2.1 10 k) k := fun k hk => (t4 k hk).symm
  refine te_sw (te_and (tc_diagram hM ⟨t, t1, t3⟩) (xc_diagram (St := St) hM h.2.2.2.1 h.2.2.2.2 t1 t3 hbc hR)) (fun rc ⟨⟨g1, g2, g3⟩, g4⟩ => ?_)
  have hTe : ∃ T, ∀ nm A e, lstF St e → R = .inr (nm, A) → (∀ k, ¬ lonK nm A.flatten k) → (isoN A (sgN nm) (fun x => x) T ∧ vn T.1 T.2.2.1 ∧ pm1 T) ∧ (nt_plane T = false ∧ rc.2.1 = -1 - nI t ∧ relC rc.2.2 St ∨ nt_plane T = true ∧ ∃ y3 e', lstF St e' ∧ dgC y3 ∧ relC y3 St ∧ cKp y3 e' A (sgN nm) rc.2) := by
    rcases g4 with ⟨-, -, c1⟩ | ⟨-, -, e, he, hc⟩
    · exact ⟨(0, 0, (fun x => x, fun x => x), fun _ => 0), fun nm A e he => (all_lst c1 he).elim⟩
    · cases hRR : R with
      | inl j => exact ⟨(0, 0, (fun x => x, fun x => x), fun _ => 0), fun nm A e _ e9 => by cases e9⟩
      | inr q =>
        obtain ⟨nm, A⟩ := q
        rw [hRR] at hc
        rcases hc with ⟨a, a1, -⟩ | ⟨-, T, a2, a3, a4, a5⟩
        · refine ⟨(0, 0, (fun x => x, fun x => x), fun _ => 0), fun nm' A' e _ e9 hno => ?_⟩
          cases e9
          obtain ⟨⟨k, k1, -⟩, -⟩ := a1
          exact absurd k1 (hno k)
        · refine ⟨T, fun nm' A' e' _ e9 _ => ?_⟩
          cases e9
          refine ⟨⟨a2, a3, a4⟩, a5.imp id ?_⟩
          rintro ⟨b1, y3, b2, b3, b4⟩
          exact ⟨b1, y3, e, he, b2, b3, b4⟩
  obtain ⟨T, hT9⟩ := hTe
  refine w_monoE (te_and (tp_diagram h.1) (xq_diagram (T := T) h.1 h.2.2.1 t1 t2 (fun k _ => rfl) hR (fun nm A e he e9 hno => (hT9 nm A e he e9 hno).1))) (fun rr ⟨r1, r2, r3⟩ => ?_)
  have hz0 : ∀ {z1 y1 : ow_MS}, z1.1 11 = 0 → y1.1 11001 = 0 → relT z1 y1 := fun e1 e2 => ⟨0, by omega, e1, e2, fun k hk => absurd hk (Nat.not_lt_zero _)⟩
  have hN := g1.1
  have okk := h.2.2.2.2
  rcases r3 with ⟨r3, r4⟩ | ⟨r3, r4, e, he, r5⟩
  · rcases g4 with ⟨c1, c2, -⟩ | ⟨-, -, e, he, -⟩
    · refine ⟨⟨St, r1, hN, relR_fr r3.2.2 (by unfold rPs rSc; omega) h.2.2.1, by rw [c2]; exact h.2.2.2.1, okk⟩, g1, ⟨t, t1, ?_, by rw [c2]; exact t3, fun k hk => ?_⟩, r2, g3, Or.inr ⟨1, 3, by simp, r3.2.1, c1⟩⟩
      · rw [(r3.2.2 11 (by unfold rPs rSc; omega)).1]
        exact t2
      · rw [c2, (r3.2.2 10 (by unfold rPs rSc; omega)).2.1]
        exact t4 k hk
    · exact (all_lst r4 he).elim
  · rcases g4 with ⟨-, -, c1⟩ | ⟨c0, c1, e', he', hc⟩
    · exact (all_lst c1 he).elim
    · have same : rr.1 = rc.2.1 → relR rr.2 St → relC rc.2.2 St → (∃ St', rel1 X rr.2 rc.2.2 St') ∧ gM rc.2.2 ∧ relT rr.2 rc.2.2 ∧ fr dgF z rr.2 ∧ fr diP y rc.2.2 ∧ ansI [(1, 3)] rr rc := fun q1 q2 q3 => ⟨⟨St, r1, hN, q2, q3, okk⟩, g1, hz0 r4 c1, r2, g3, Or.inl ⟨r3, c0, q1⟩⟩
      cases hRR : R with
      | inl j =>
        rw [hRR] at r5 hc
        exact same (r5.1.trans hc.1.symm) r5.2 hc.2
      | inr q =>
        obtain ⟨nm, A⟩ := q
        rw [hRR] at r5 hc
        obtain ⟨b2, b3, r5⟩ := r5
        rcases r5 with ⟨a, a1, a2, a3⟩ | ⟨a1, a2⟩
        · rcases hc with ⟨a', k1, k2, k3⟩ | ⟨k1, -⟩
          · have ea := lonA_uni a1 k1
            subst ea
            exact same (a2.trans k2.symm) a3 k3
          · obtain ⟨⟨k, k2, -⟩, -⟩ := a1
            exact absurd k2 (k1 k)
        · obtain ⟨-, hT8⟩ := hT9 nm A e he hRR a1
          rcases a2 with ⟨p1, p2, p3⟩ | ⟨p1, z3, p2, p3⟩
          · rcases hT8 with ⟨-, m2, m3⟩ | ⟨m1, -⟩
            · exact same (p2.trans m2.symm) p3 m3
            · rw [p1] at m1
              cases m1
          · rcases hT8 with ⟨m1, -⟩ | ⟨-, y3, e2, he2, m2, m3, m4⟩
            · rw [p1] at m1
              cases m1
            · have ef := lst_uni2 he2 he
              subst ef
              obtain ⟨k1, A', sg', k2, k3, k4⟩ := kp_join m2 m3 p2 okk he2 b2 b3 m4 p3
              exact ⟨⟨_, r1, hN, k3, k2, k4⟩, g1, hz0 r4 c1, r2, g3, Or.inl ⟨r3, c0, k1.symm⟩⟩
/-- where only the tape's length changed besides what rel2 doesn't speak of -/
theorem rel2_t {P Q : Nat → Prop} {z1 y1 : ow_MS} (hz : fr P z z1) (hy : fr Q y y1) (h1 : ∀ g, P g → g = 11 ∨ ¬ r2Z g) (h2 : ∀ g, Q g → g = 11001 ∨ g = 11002 ∨ ¬ r2Y g) (hT : relT z1 y1) (h : rel2 z y) : rel2 z1 y1 := by
  obtain ⟨-, k2, k3, ⟨Ms, k4, k5, k6⟩, Ns, k7, k8, k9⟩ := h
  have no : ∀ g, r2Z g → g ≠ 11 → ¬ P g := fun g g1 g2 h9 => (h1 g h9).elim g2 (fun h8 => h8 g1)
  have no2 : ∀ g, r2Y g → g ≠ 11001 → g ≠ 11002 → ¬ Q g := fun g g1 g2 g3 h9 => (h2 g h9).elim g2 (fun h8 => h8.elim g3 (fun h7 => h7 g1))
  refine ⟨hT, relB_k hz hy ⟨no _ (by unfold r2Z; omega) (by omega), no _ (by unfold r2Z; omega) (by omega), no _ (by unfold r2Z; omega) (by omega)⟩ ⟨no2 _ (by unfold r2Y; omega) (by omega) (by omega), no2 _ (by unfold r2Y; omega) (by omega) (by omega), no2 _ (by unfold r2Y; omega) (by omega) (by omega)⟩ k2, brC_fr hy ⟨no2 _ (by unfold r2Y; omega) (by omega) (by omega), no2 _ (by unfold r2Y; omega) (by omega) (by omega), no2 _ (by unfold r2Y; omega) (by omega) (by omega)⟩ k3, ⟨Ms, rlR_k hz ⟨no _ (by unfold r2Z; omega) (by omega), no _ (by unfold r2Z; omega) (by omega), no _ (by unfold r2Z; omega) (by omega)⟩ k4, rlC_k hy (fun q hq => no2 q (by unfold cV at hq; unfold r2Y; omega) (by unfold cV at hq; omega) (by unfold cV at hq; omega)) k5, k6⟩, Ns, rlR_k hz ⟨no _ (by unfold r2Z; omega) (by omega), no _ (by unfold r2Z; omega) (by omega), no _ (by unfold r2Z; omega) (by omega)⟩ k7, rlC_k hy (fun q hq => no2 q (by unfold cV at hq; unfold r2Y; omega) (by unfold cV at hq; omega) (by unfold cV at hq; omega)) k8, k9⟩
theorem c_diagram (h : rel3 X z y) : Te (fun K => qe_X13_diagram K z) (fun rr => Te (fun K => ce_X11_diagram vl K 0 y) (fun rc => rel3 X rr.2 rc.2.2 ∧ ansI [(1, 3)] rr rc)) := by
  obtain ⟨⟨St, k⟩, hM, h2⟩ := id h
  exact w_monoE (b_diagram k hM h2.1) (fun rr hr => w_monoE hr (fun rc ⟨b1, b2, b3, b4, b5, b6⟩ => ⟨⟨b1, b2, rel2_t b4 b5 (fun g hg => by unfold dgF frV rPk rSc at hg; unfold r2Z; omega) (fun g hg => by unfold diP uP at hg; unfold r2Y; omega) b3 h2⟩, b6⟩))
end XD2
