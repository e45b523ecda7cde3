/-! both sides: moves -/
def fB9 (g : Nat) : Prop := 2 ≤ g ∧ g ≤ 9 ∨ 20 ≤ g ∧ g ≤ 22 ∨ g = 27 ∨ 31 ≤ g ∧ g ≤ 34 ∨ 1000 ≤ g
def snkM (X : (Nat → Nat → Int32) → Prop) (z0 z : ow_MS) (S : List Nat → Prop) (n : Nat) : Prop := snk0 X z S n ∧ fr fB9 z0 z
theorem snkM_ok {X : (Nat → Nat → Int32) → Prop} {z0 : ow_MS} : snkF (snkM X z0) := by
  refine ⟨fun P z z1 S n hf hP h => ⟨snk0_ok.1 P z z1 S n hf hP h.1, fr_tr h.2 (fr_mono (fun g hg => by have := hP g hg; unfold fB9; omega) hf)⟩, fun z S n A sg hn ⟨h, h0⟩ hA hG hF h24 h6 => ?_, fun z S n n' hn h => ⟨snk0_ok.2.2 z S n n' hn h.1, h.2⟩⟩
  have ff : Te (fun K => qe_X13_offer K z) (fun z1 => fr fB9 z0 z1) := by
    obtain ⟨h1, h2, Ms, h3, h4, h5⟩ := h
    refine e_X13_offer ?_; unfold qm_X13_offer_0
    refine w_cs0 (tr_pack (o := 0) pn3 (by omega) ml27 (by omega) (by omega) (by omega) (by omega) hF hA hG) (fun z1 ⟨m, P, g1, g2, g3, g4, _, _⟩ => ?_)
    have i2 : z1.1 30 = 0 := by rw [(g3 30 (by unfold frQ; omega)).1]; exact h2
    have i3 : lsW z1 Ms := lsW_fr g3 (by unfold frQ; omega) h3
    exact w_rdF i2 (w_ifF (by decide) (w_ifT rfl (w_cs0 (xm_offerList (by omega) i3 g2 (dRow_pack hF g1 h24 h6 g2)) (fun z2 ⟨_, k4⟩ => w_some (fr_tr h0 (fr_tr (fr_mono (fun g hg => by unfold frQ at hg; unfold fB9; omega) g3) (fr_mono (fun g hg => by unfold fB9; omega) k4)))))))
  exact w_monoE (te_and (snk0_ok.2.1 z S n A sg hn h hA hG hF h24 h6) ff) (fun z1 ⟨⟨⟨S', a1, a2⟩, a3⟩, a4⟩ => ⟨⟨S', a1, a2, a4⟩, a3⟩)
section XMO
variable {X : (Nat → Nat → Int32) → Prop} {z : ow_MS} {St : plT} {x x' : Int32}
def rmv9 (X : (Nat → Nat → Int32) → Prop) (z : ow_MS) (A : rn_L) (sg : Nat → Bool) (kd : Nat) (r : Int32 × ow_MS) : Prop := gI X r.2 ∧ r.2.1 1 = 0 ∧ fr (fun g => g = 1 ∨ g = 30 ∨ fB9 g) z r.2 ∧ ∃ Ms, lsW r.2 Ms ∧ r.1 = nI Ms.length ∧ ∀ c, okF A.flatten c → (∀ r, r ∈ Ms → ∃ A' sg', OM A sg c kd A' sg' ∧ nfR A' sg' r) ∧ ∀ A' sg', OM A sg c kd A' sg' → ∃ r, r ∈ Ms ∧ nfR A' sg' r
theorem xq_moves (h : gI X z) (hR : relR z St) : Te (fun K => qe_X13_moves K x x' z) (fun r => (rFl X z 1 r ∧ ∀ d, d < 40 → x = nI d → St d = none) ∨ ∃ d A sg, d < 40 ∧ x = nI d ∧ St d = some (A, sg) ∧ (rFl X z 2 r ∧ ¬ in9 x' 5 ∨ ∃ kd, kd < 5 ∧ x' = nI kd ∧ rmv9 X z A sg kd r)) := by
  let Q : Int32 × ow_MS → Prop := fun r => (rFl X z 1 r ∧ ∀ d, d < 40 → x = nI d → St d = none) ∨ ∃ d A sg, d < 40 ∧ x = nI d ∧ St d = some (A, sg) ∧ (rFl X z 2 r ∧ ¬ in9 x' 5 ∨ ∃ kd, kd < 5 ∧ x' = nI kd ∧ rmv9 X z A sg kd r)
  have h1 := gI_1 (c := 0) h
  have hR1 := relR_1 (c := 0) hR
  have hk9 := in9_iff (x := x') (n := 5) (by omega)
  refine e_X13_moves ?_
  refine u_X13_moves_0 ?_; unfold qm_X13_moves_0
  refine w_wrF (w_hasX hR1 (fun h0 => w_ifT rfl (w_mono (w_failX (k := 1) h1 fr_1) (fun r hr => Or.inl ⟨hr, h0⟩))) (fun d A sg hd hx hSt hv hne => w_ifF (by decide) ?_))
  have c1 : ¬ in9 x' 5 → Tt (fun K i => q_X13_moves K i 1 x x' (usF z 1 0)) Q := by
    intro hno
    refine u_X13_moves_1 ?_; unfold qm_X13_moves_1
    exact w_mono (w_failX (k := 2) h1 fr_1) (fun r hr => Or.inr ⟨d, A, sg, hd, hx, hSt, Or.inl ⟨hr, hno⟩⟩)
  refine w_if (fun h9 => c1 (fun h8 => (hk9.mp h8).1 h9)) (fun h0 => ?_)
  obtain ⟨kd, k31, rfl⟩ := nI_of h0
  refine w_le (b := 4) k31 (by omega) (fun hk => ?_) (fun hk => c1 (fun ⟨j, j1, j2⟩ => by
    have := nI_inj9 (a := kd) (b := j) (by omega) (by omega) j2
    omega))
  subst hx
  refine w_cs0 (to_open pn1 hd hv) (fun z2 ⟨o1, f1⟩ => w_wrF (w_wrF ?_))
  have h2 : gI X z2 := gI_net pn1 f1 (fun g hg => by omega) h1
  have f2 : fr (fun g => g = 22 ∨ g = 30) z2 (usF (usF z2 22 0) 30 0) := fr_F2 (fr_F (Or.inl rfl)) (Or.inr rfl)
  have e22 : (usF (usF z2 22 0) 30 0).1 22 = nI 0 := rf_ot (by omega) (po_usF_at.trans nI_0.symm)
  have h3 : gI X (usF (usF z2 22 0) 30 0) := by
    obtain ⟨j1, j2, j3, j4, j5, j6, j7⟩ := h2
    exact ⟨gTape_fr f2 (by omega) j1, gRows_fr f2 (by omega) j2, ⟨0, by omega, e22, fun k hk => by omega, fun j hj => by omega⟩, gSum_fr f2 (by omega) (by omega) (by omega) j4, gCash_fr f2 (by omega) (by omega) (by omega) (by omega) (by omega) j5, gBrs_fr f2 (by omega) (by omega) (by omega) j6, gX_fr f2 (fun g hg => by omega) j7⟩
  have hs : snkM X (usF (usF z2 22 0) 30 0) (usF (usF z2 22 0) 30 0) (fun _ => False) 0 := ⟨⟨h3, po_usF_at, [], ⟨Nat.zero_le _, e22, fun k r hk => (by rw [List.getElem?_nil] at hk; cases hk), fun j hj => absurd hj (Nat.not_lt_zero _), List.Pairwise.nil⟩, fun r => ⟨fun h9 => h9.elim, fun h9 => by cases h9⟩, Nat.le_refl _⟩, fr_rf⟩
  obtain ⟨c, hc1, hc2⟩ := hv.2.1
  refine w_cs0 (xr_try snkM_ok pn1 (by omega) hc1 (show kd < 5 by omega) (oNet_fr f2 (fun g hg => by omega) o1) hs) (fun z3 ⟨⟨S', a1, ⟨b1, b2, Ms, b3, b4, b5⟩, b6⟩, _⟩ => w_rdF b3.2.1 (w_some (Or.inr ⟨d, A, sg, hd, rfl, hSt, Or.inr ⟨kd, by omega, rfl, b1, ?_, ?_, Ms, b3, rfl, fun c' hc' => ?_⟩⟩)))
  · show z3.1 1 = 0
    rw [(b6 1 (by unfold fB9; omega)).1, (f2 1 (by omega)).1, (f1 1 (by omega)).1]
    exact po_usF_at
  · refine fr_tr (fr_F (Or.inl rfl)) (fr_tr (fr_mono (fun g hg => Or.inr (Or.inr (by unfold fB9; omega))) f1) (fr_tr (fr_mono (fun g hg => ?_) f2) (fr_mono (fun g hg => Or.inr (Or.inr hg)) b6)))
    rcases hg with hg | hg
    · exact Or.inr (Or.inr (by unfold fB9; omega))
    · exact Or.inr (Or.inl hg)
  · have ec : c' = c := by
      have := okF_len hc1
      have := okF_len hc'
      omega
    rw [ec]
    refine ⟨fun r hr => ?_, fun A' sg' hO => ?_⟩
    · rcases a1.2.1 r ((b4 r).mpr hr) with h9 | h9
      · exact h9.elim
      · exact h9
    · obtain ⟨r, r1, r2⟩ := a1.2.2 A' sg' hO
      exact ⟨r, (b4 r).mp r1, r2⟩
end XMO
section XMD
variable {vl : Nat → Nat} {y : ow_MS} {St : plT} {x x' : Int32}
def cmv9 (y : ow_MS) (A : rn_L) (sg : Nat → Bool) (c kd : Nat) (r : Nat × Int32 × ow_MS) : Prop := r.1 = 0 ∧ gN r.2.2 ∧ fr (coP 2000) y r.2.2 ∧ ∃ R X os, nv R ∧ isoN A sg (fun x => x) R ∧ sgR c sg R ∧ tbO r.2.2 2000 1848 X os ∧ sts X os ∧ (∀ C, C ∈ X → ∃ j, j < mv_cnt R.1 kd ∧ mvD kd R j C) ∧ (∀ j, j < mv_cnt R.1 kd → mvN kd R j ∨ ∃ C, mvD kd R j C ∧ (C ∈ X ∨ os.length = 1848)) ∧ r.2.1 = nI os.length
theorem xc_moves (hN : gM y) (hC : relC y St) (hS : okS St) : Te (fun K => ce_X11_moves vl K 0 x x' y) (fun r => (r.1 = 1 ∧ r.2.2 = y ∧ ∀ d, d < 40 → x = nI d → St d = none) ∨ ∃ d A sg c, d < 40 ∧ x = nI d ∧ St d = some (A, sg) ∧ okL A c ∧ A ≠ [] ∧ plnA A sg ∧ (r.1 = 2 ∧ r.2.2 = y ∧ ¬ in9 x' 5 ∨ ∃ kd, kd < 5 ∧ x' = nI kd ∧ cmv9 y A sg c kd r)) := by
  have hk9 := in9_iff (x := x') (n := 5) (by omega)
  refine e_X11_moves ?_; unfold cm_X11_moves_0
  refine w_tc0 (xc_need hN.1.1 hC hS) ?_ ?_
  · rintro y1 ⟨h1, rfl⟩
    rcases h1 with h1 | ⟨-, d, A, sg, c, hd, rfl, hSt, hs, hA, hne, hpl⟩
    · exact absurd (show (0 : Nat) = 1 from h1.1) (by decide)
    · refine w_if (fun h9 => w_some (Or.inr ⟨d, A, sg, c, hd, rfl, hSt, hA, hne, hpl, Or.inl ⟨rfl, rfl, fun h8 => (hk9.mp h8).1 h9⟩⟩)) (fun e0 => ?_)
      obtain ⟨kd, k31, rfl⟩ := nI_of e0
      refine w_lt (b := 5) k31 (by omega) (fun hk => ?_) (fun hk => w_some (Or.inr ⟨d, A, sg, c, hd, rfl, hSt, hA, hne, hpl, Or.inl ⟨rfl, rfl, fun ⟨j, j1, j2⟩ => by
        have := nI_inj9 (a := kd) (b := j) (by omega) (by omega) j2
        omega⟩⟩))
      obtain ⟨⟨C2, o2, t2⟩, t3, t4, t5, t6⟩ := id hN.2
      refine w_wrF (w_cs0 (xc_collect ch_1000 hd (by omega) hs hA tH2 (by omega) (Nat.le_refl _) (tgk (Or.inl rfl)) hk (gN_F (far_cP (by omega)) hN.1) (tbO_0 t2.2.2.2.2) (fun i j hij hj => absurd hj (Nat.not_lt_zero _))) ?_)
      rintro y2 ⟨g1, g2, R, X, os', g3, g4, g5, g6, g7, g8, g9⟩
      have g6 : tbO y2 2000 1848 X os' := g6
      exact w_rdF g6.1.1 (w_some (Or.inr ⟨d, A, sg, c, hd, rfl, hSt, hA, hne, hpl, Or.inr ⟨kd, hk, rfl, rfl, g1, fr_tr (fr_F (by unfold coP cV; omega)) g2, R, X, os', g3, g4, g5, g6, g7, g8, g9, rfl⟩⟩))
  · rintro a y1 ha ⟨h1, rfl⟩
    rcases h1 with h1 | h1
    · exact w_some (Or.inl ⟨h1.1, rfl, h1.2⟩)
    · exact absurd h1.1 ha
end XMD
section XME
variable {X : (Nat → Nat → Int32) → Prop} {z y : ow_MS} {vl : Nat → Nat} {x x' : Int32}
/-- the lists of both sides, from what both sides did -/
theorem mv_both {A : rn_L} {sg : Nat → Bool} {c kd : Nat} {rr : Int32 × ow_MS} {rc : Nat × Int32 × ow_MS} (hk : kd < 5) (hA : okL A c) (hne : A ≠ []) (hpl : plnA A sg) (hr : rmv9 X z A sg kd rr) (hc : cmv9 y A sg c kd rc) : rr.1 = rc.2.1 ∧ ∃ Ns, rlR 20 21 22 2700 rr.2 Ns ∧ rlC 2000 1848 rc.2.2 Ns ∧ okM Ns := by
  obtain ⟨-, -, -, Ms, a1, a2, a3⟩ := hr
  obtain ⟨-, -, -, R, X9, os, b1, b2, b3, b4, b5, b6, b7, b8⟩ := hc
  have hV : isoV A sg idN R := isoV_of b2 b1.1
  have ec : R.1 = c := b3.1
  have hp : pm1 R := fun x hx => by
    rw [b3.2 x (by omega)]
    cases sg x
    · exact Or.inl rfl
    · exact Or.inr rfl
  obtain ⟨a3, a4⟩ := a3 c hA.1
  rw [← ec] at a3 a4
  have hoM := tabC_os b4.1
  obtain ⟨k1, k2⟩ := mv_join hV b1 hp (hpl _ _ hV hp) hA.2.2.2.2 hne hk a1.2.2.2.2 a3 a4 b4.1.2.1 hoM b5 b6 b7
  obtain ⟨Ns, n1, n2⟩ := mv_list k2
  refine ⟨by rw [a2, b8, k1], Ns, ⟨by rw [n1]; exact a1.1, by rw [n1]; exact a1.2.1, fun k A' sg' hN => ?_⟩, ⟨X9, os, b4, by rw [n1]; exact k1, fun k A' sg' hN => (n2 k A' sg' hN).2.1⟩, fun k A' sg' hN => ⟨(n2 k A' sg' hN).2.2.1, (n2 k A' sg' hN).2.2.2.1, (n2 k A' sg' hN).2.2.2.2⟩⟩
  obtain ⟨m1, -, m3, -, c', m5⟩ := n2 k A' sg' hN
  obtain ⟨j, j1, j2, j3⟩ := a1.2.2.1 k _ m1
  exact ⟨j, by omega, j2, m3, j3, ⟨c', m5.1, m5.2.2.2.1⟩, m5.2.2.2.2⟩
theorem c_moves (h : rel3 X z y) : Te (fun K => qe_X13_moves K x x' z) (fun rr => Te (fun K => ce_X11_moves vl K 0 x x' y) (fun rc => rel3 X rr.2 rc.2.2 ∧ ansI [(1, 1), (2, 2)] rr rc)) := by
  obtain ⟨⟨St, k⟩, hM, h2⟩ := id h
  refine te_two (xq_moves k.1 k.2.2.1) (te_and (tc_moves (x := x) (x' := x') hM) (xc_moves hM k.2.2.2.1 k.2.2.2.2)) (fun rr rc hr ⟨⟨hG, _⟩, hc⟩ => ?_)
  have same : ∀ {j k9 : Nat}, rFl X z j rr → (j, k9) ∈ [(1, 1), (2, 2)] → rc.1 = k9 → rc.2.2 = y → rel3 X rr.2 rc.2.2 ∧ ansI [(1, 1), (2, 2)] rr rc := fun hf hm e1 e2 => both_3 h (bo_fail k hf hm e1 (by rw [e2]; exact k.2.1) (by rw [e2]; exact fr_rf) (by rw [e2]; exact k.2.2.2.1))
  rcases hr with ⟨r1, r2⟩ | ⟨d, A, sg, hd, rfl, hSt, hr⟩
  · rcases hc with ⟨c1, c2, -⟩ | ⟨d, A, sg, c, hd, hx, hSt, -⟩
    · exact same r1 (by simp) c1 c2
    · rw [r2 d hd hx] at hSt
      cases hSt
  · rcases hc with ⟨-, -, c2⟩ | ⟨d', A', sg', c, hd', hx, hSt', hA, hne, hpl, hc⟩
    · rw [c2 d hd rfl] at hSt
      cases hSt
    · have ed := nI_inj9 (a := d) (b := d') (by omega) (by omega) hx
      subst ed
      rw [hSt] at hSt'
      cases hSt'
      rcases hr with ⟨r1, r2⟩ | ⟨kd, hk, rfl, hr⟩
      · rcases hc with ⟨c1, c2, -⟩ | ⟨kd, hk, rfl, -⟩
        · exact same r1 (by simp) c1 c2
        · exact absurd ⟨kd, hk, rfl⟩ r2
      · rcases hc with ⟨-, -, c2⟩ | ⟨kd', hk', hx', hc⟩
        · exact absurd ⟨kd, hk, rfl⟩ c2
        · have ek := nI_inj9 (a := kd) (b := kd') (by omega) (by omega) hx'
          subst ek
          obtain ⟨e1, Ns, q1, q2, q3⟩ := mv_both hk hA hne hpl hr hc
          obtain ⟨z1, z2, z3, -⟩ := hr
          obtain ⟨y1, y2, y3, -⟩ := hc
          obtain ⟨k1, k2, k3, -, Ns', k7, k8, k9⟩ := h2
          refine ⟨⟨⟨St, z1, y2, relR_fr z3 (by unfold fB9; omega) k.2.2.1, relC_fr y3 (fun q hq h9 => by unfold cW at hq; unfold coP cV at h9; omega) k.2.2.2.1, k.2.2.2.2⟩, hG, relT_k z3 y3 ⟨by unfold fB9; omega, by unfold fB9; omega⟩ ⟨by unfold coP cV; omega, by unfold coP cV; omega⟩ k1, relB_k z3 y3 ⟨by unfold fB9; omega, by unfold fB9; omega, by unfold fB9; omega⟩ ⟨by unfold coP cV; omega, by unfold coP cV; omega, by unfold coP cV; omega⟩ k2, brC_fr y3 ⟨by unfold coP cV; omega, by unfold coP cV; omega, by unfold coP cV; omega⟩ k3, ⟨Ns, q1, q2, q3⟩, Ns', rlR_k z3 ⟨by unfold fB9; omega, by unfold fB9; omega, by unfold fB9; omega⟩ k7, rlC_k y3 (fun q hq => by unfold cV at hq; unfold coP cV; omega) k8, k9⟩, Or.inl ⟨z2, y1, e1⟩⟩
end XME
