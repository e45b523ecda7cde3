section
/-! 99zzzzzzzzzzzn.xmoves -/
/-! both sides: moves -/
def fB9 (g : Nat) : Prop := 2 ≤ g ∧ g ≤ 9 ∨ 20 ≤ g ∧ g ≤ 22 ∨ g = 27 ∨ 31 ≤ g ∧ g ≤ 34 ∨ 1000 ≤ g
def snkM (X : (Nat → Nat → Int32) → Prop) (z0 z : ow_MS) (S : List Nat → Prop) (n : Nat) : Prop := snk0 X z S n ∧ fr fB9 z0 z
theorem snkM_ok {X : (Nat → Nat → Int32) → Prop} {z0 : ow_MS} : snkF (snkM X z0) := by
  refine ⟨fun P z z1 S n hf hP h => ⟨snk0_ok.1 P z z1 S n hf hP h.1, fr_tr h.2 (fr_mono (fun g hg => by have := hP g hg; unfold fB9; omega) hf)⟩, fun z S n A sg hn ⟨h, h0⟩ hA hG hF h24 h6 => ?_, fun z S n n' hn h => ⟨snk0_ok.2.2 z S n n' hn h.1, h.2⟩⟩
  have ff : Te (fun K => qe_X13_offer K z) (fun z1 => fr fB9 z0 z1) := by
    obtain ⟨h1, h2, Ms, h3, h4, h5⟩ := h
    refine e_X13_offer ?_; unfold qm_X13_offer_0
    refine w_cs0 (tr_pack (o := 0) pn3 (by omega) ml27 (by omega) (by omega) (by omega) (by omega) hF hA hG) (fun z1 ⟨m, P, g1, g2, g3, g4, _, _⟩ => ?_)
    have i2 : z1.1 30 = 0 := by rw [(g3 30 (by unfold frQ; omega)).1]; exact h2
    have i3 : lsW z1 Ms := lsW_fr g3 (by unfold frQ; omega) h3
    exact w_rdF i2 (w_ifF (by decide) (w_ifT rfl (w_cs0 (xm_offerList (by omega) i3 g2 (dRow_pack hF g1 h24 h6 g2)) (fun z2 ⟨_, k4⟩ => w_some (fr_tr h0 (fr_tr (fr_mono (fun g hg => by unfold frQ at hg; unfold fB9; omega) g3) (fr_mono (fun g hg => by unfold fB9; omega) k4)))))))
  exact w_monoE (te_and (snk0_ok.2.1 z S n A sg hn h hA hG hF h24 h6) ff) (fun z1 ⟨⟨⟨S', a1, a2⟩, a3⟩, a4⟩ => ⟨⟨S', a1, a2, a4⟩, a3⟩)
section XMO
variable {X : (Nat → Nat → Int32) → Prop} {z : ow_MS} {St : plT} {x x' : Int32}
def rmv9 (X : (Nat → Nat → Int32) → Prop) (z : ow_MS) (A : rn_L) (sg : Nat → Bool) (kd : Nat) (r : Int32 × ow_MS) : Prop := gI X r.2 ∧ r.2.1 1 = 0 ∧ fr (fun g => g = 1 ∨ g = 30 ∨ fB9 g) z r.2 ∧ ∃ Ms, lsW r.2 Ms ∧ r.1 = nI Ms.length ∧ ∀ c, okF A.flatten c → (∀ r, r ∈ Ms → ∃ A' sg', OM A sg c kd A' sg' ∧ nfR A' sg' r) ∧ ∀ A' sg', OM A sg c kd A' sg' → ∃ r, r ∈ Ms ∧ nfR A' sg' r
theorem xq_moves (h : gI X z) (hR : relR z St) : Te (fun K => qe_X13_moves K x x' z) (fun r => (rFl X z 1 r ∧ ∀ d, d < 40 → x = nI d → St d = none) ∨ ∃ d A sg, d < 40 ∧ x = nI d ∧ St d = some (A, sg) ∧ (rFl X z 2 r ∧ ¬ in9 x' 5 ∨ ∃ kd, kd < 5 ∧ x' = nI kd ∧ rmv9 X z A sg kd r)) := by
  let Q : Int32 × ow_MS → Prop := fun r => (rFl X z 1 r ∧ ∀ d, d < 40 → x = nI d → St d = none) ∨ ∃ d A sg, d < 40 ∧ x = nI d ∧ St d = some (A, sg) ∧ (rFl X z 2 r ∧ ¬ in9 x' 5 ∨ ∃ kd, kd < 5 ∧ x' = nI kd ∧ rmv9 X z A sg kd r)
  have h1 := gI_1 (c := 0) h
  have hR1 := relR_1 (c := 0) hR
  have hk9 := in9_iff (x := x') (n := 5) (by omega)
  refine e_X13_moves ?_
  refine u_X13_moves_0 ?_; unfold qm_X13_moves_0
  refine w_wrF (w_hasX hR1 (fun h0 => w_ifT rfl (w_mono (w_failX (k := 1) h1 fr_1) (fun r hr => Or.inl ⟨hr, h0⟩))) (fun d A sg hd hx hSt hv hne => w_ifF (by decide) ?_))
  have c1 : ¬ in9 x' 5 → Tt (fun K i => q_X13_moves K i 1 x x' (usF z 1 0)) Q := by
    intro hno
    refine u_X13_moves_1 ?_; unfold qm_X13_moves_1
    exact w_mono (w_failX (k := 2) h1 fr_1) (fun r hr => Or.inr ⟨d, A, sg, hd, hx, hSt, Or.inl ⟨hr, hno⟩⟩)
  refine w_if (fun h9 => c1 (fun h8 => (hk9.mp h8).1 h9)) (fun h0 => ?_)
  obtain ⟨kd, k31, rfl⟩ := nI_of h0
  refine w_le (b := 4) k31 (by omega) (fun hk => ?_) (fun hk => c1 (fun ⟨j, j1, j2⟩ => by
    have := nI_inj9 (a := kd) (b := j) (by omega) (by omega) j2
    omega))
  subst hx
  refine w_cs0 (to_open pn1 hd hv) (fun z2 ⟨o1, f1⟩ => w_wrF (w_wrF ?_))
  have h2 : gI X z2 := gI_net pn1 f1 (fun g hg => by omega) h1
  have f2 : fr (fun g => g = 22 ∨ g = 30) z2 (usF (usF z2 22 0) 30 0) := fr_F2 (fr_F (Or.inl rfl)) (Or.inr rfl)
  have e22 : (usF (usF z2 22 0) 30 0).1 22 = nI 0 := rf_ot (by omega) (po_usF_at.trans nI_0.symm)
  have h3 : gI X (usF (usF z2 22 0) 30 0) := by
    obtain ⟨j1, j2, j3, j4, j5, j6, j7⟩ := h2
    exact ⟨gTape_fr f2 (by omega) j1, gRows_fr f2 (by omega) j2, ⟨0, by omega, e22, fun k hk => by omega, fun j hj => by omega⟩, gSum_fr f2 (by omega) (by omega) (by omega) j4, gCash_fr f2 (by omega) (by omega) (by omega) (by omega) (by omega) j5, gBrs_fr f2 (by omega) (by omega) (by omega) j6, gX_fr f2 (fun g hg => by omega) j7⟩
  have hs : snkM X (usF (usF z2 22 0) 30 0) (usF (usF z2 22 0) 30 0) (fun _ => False) 0 := ⟨⟨h3, po_usF_at, [], ⟨Nat.zero_le _, e22, fun k r hk => (by rw [List.getElem?_nil] at hk; cases hk), fun j hj => absurd hj (Nat.not_lt_zero _), List.Pairwise.nil⟩, fun r => ⟨fun h9 => h9.elim, fun h9 => by cases h9⟩, Nat.le_refl _⟩, fr_rf⟩
  obtain ⟨c, hc1, hc2⟩ := hv.2.1
  refine w_cs0 (xr_try snkM_ok pn1 (by omega) hc1 (show kd < 5 by omega) (oNet_fr f2 (fun g hg => by omega) o1) hs) (fun z3 ⟨⟨S', a1, ⟨b1, b2, Ms, b3, b4, b5⟩, b6⟩, _⟩ => w_rdF b3.2.1 (w_some (Or.inr ⟨d, A, sg, hd, rfl, hSt, Or.inr ⟨kd, by omega, rfl, b1, ?_, ?_, Ms, b3, rfl, fun c' hc' => ?_⟩⟩)))
  · show z3.1 1 = 0
    rw [(b6 1 (by unfold fB9; omega)).1, (f2 1 (by omega)).1, (f1 1 (by omega)).1]
    exact po_usF_at
  · refine fr_tr (fr_F (Or.inl rfl)) (fr_tr (fr_mono (fun g hg => Or.inr (Or.inr (by unfold fB9; omega))) f1) (fr_tr (fr_mono (fun g hg => ?_) f2) (fr_mono (fun g hg => Or.inr (Or.inr hg)) b6)))
    rcases hg with hg | hg
    · exact Or.inr (Or.inr (by unfold fB9; omega))
    · exact Or.inr (Or.inl hg)
  · have ec : c' = c := by
      have := okF_len hc1
      have := okF_len hc'
      omega
    rw [ec]
    refine ⟨fun r hr => ?_, fun A' sg' hO => ?_⟩
    · rcases a1.2.1 r ((b4 r).mpr hr) with h9 | h9
      · exact h9.elim
      · exact h9
    · obtain ⟨r, r1, r2⟩ := a1.2.2 A' sg' hO
      exact ⟨r, (b4 r).mp r1, r2⟩
end XMO
section XMD
variable {vl : Nat → Nat} {y : ow_MS} {St : plT} {x x' : Int32}
def cmv9 (y : ow_MS) (A : rn_L) (sg : Nat → Bool) (c kd : Nat) (r : Nat × Int32 × ow_MS) : Prop := r.1 = 0 ∧ gN r.2.2 ∧ fr (coP 2000) y r.2.2 ∧ ∃ R X os, nv R ∧ isoN A sg (fun x => x) R ∧ sgR c sg R ∧ tbO r.2.2 2000 1848 X os ∧ sts X os ∧ (∀ C, C ∈ X → ∃ j, j < mv_cnt R.1 kd ∧ mvD kd R j C) ∧ (∀ j, j < mv_cnt R.1 kd → mvN kd R j ∨ ∃ C, mvD kd R j C ∧ (C ∈ X ∨ os.length = 1848)) ∧ r.2.1 = nI os.length
theorem xc_moves (hN : gM y) (hC : relC y St) (hS : okS St) : Te (fun K => ce_X11_moves vl K 0 x x' y) (fun r => (r.1 = 1 ∧ r.2.2 = y ∧ ∀ d, d < 40 → x = nI d → St d = none) ∨ ∃ d A sg c, d < 40 ∧ x = nI d ∧ St d = some (A, sg) ∧ okL A c ∧ A ≠ [] ∧ plnA A sg ∧ (r.1 = 2 ∧ r.2.2 = y ∧ ¬ in9 x' 5 ∨ ∃ kd, kd < 5 ∧ x' = nI kd ∧ cmv9 y A sg c kd r)) := by
  have hk9 := in9_iff (x := x') (n := 5) (by omega)
  refine e_X11_moves ?_; unfold cm_X11_moves_0
  refine w_tc0 (xc_need hN.1.1 hC hS) ?_ ?_
  · rintro y1 ⟨h1, rfl⟩
    rcases h1 with h1 | ⟨-, d, A, sg, c, hd, rfl, hSt, hs, hA, hne, hpl⟩
    · exact absurd (show (0 : Nat) = 1 from h1.1) (by decide)
    · refine w_if (fun h9 => w_some (Or.inr ⟨d, A, sg, c, hd, rfl, hSt, hA, hne, hpl, Or.inl ⟨rfl, rfl, fun h8 => (hk9.mp h8).1 h9⟩⟩)) (fun e0 => ?_)
      obtain ⟨kd, k31, rfl⟩ := nI_of e0
      refine w_lt (b := 5) k31 (by omega) (fun hk => ?_) (fun hk => w_some (Or.inr ⟨d, A, sg, c, hd, rfl, hSt, hA, hne, hpl, Or.inl ⟨rfl, rfl, fun ⟨j, j1, j2⟩ => by
        have := nI_inj9 (a := kd) (b := j) (by omega) (by omega) j2
        omega⟩⟩))
      obtain ⟨⟨C2, o2, t2⟩, t3, t4, t5, t6⟩ := id hN.2
      refine w_wrF (w_cs0 (xc_collect ch_1000 hd (by omega) hs hA tH2 (by omega) (Nat.le_refl _) (tgk (Or.inl rfl)) hk (gN_F (far_cP (by omega)) hN.1) (tbO_0 t2.2.2.2.2) (fun i j hij hj => absurd hj (Nat.not_lt_zero _))) ?_)
      rintro y2 ⟨g1, g2, R, X, os', g3, g4, g5, g6, g7, g8, g9⟩
      have g6 : tbO y2 2000 1848 X os' := g6
      exact w_rdF g6.1.1 (w_some (Or.inr ⟨d, A, sg, c, hd, rfl, hSt, hA, hne, hpl, Or.inr ⟨kd, hk, rfl, rfl, g1, fr_tr (fr_F (by unfold coP cV; omega)) g2, R, X, os', g3, g4, g5, g6, g7, g8, g9, rfl⟩⟩))
  · rintro a y1 ha ⟨h1, rfl⟩
    rcases h1 with h1 | h1
    · exact w_some (Or.inl ⟨h1.1, rfl, h1.2⟩)
    · exact absurd h1.1 ha
end XMD
section XME
variable {X : (Nat → Nat → Int32) → Prop} {z y : ow_MS} {vl : Nat → Nat} {x x' : Int32}
/-- the lists of both sides, from what both sides did -/
theorem mv_both {A : rn_L} {sg : Nat → Bool} {c kd : Nat} {rr : Int32 × ow_MS} {rc : Nat × Int32 × ow_MS} (hk : kd < 5) (hA : okL A c) (hne : A ≠ []) (hpl : plnA A sg) (hr : rmv9 X z A sg kd rr) (hc : cmv9 y A sg c kd rc) : rr.1 = rc.2.1 ∧ ∃ Ns, rlR 20 21 22 2700 rr.2 Ns ∧ rlC 2000 1848 rc.2.2 Ns ∧ okM Ns := by
  obtain ⟨-, -, -, Ms, a1, a2, a3⟩ := hr
  obtain ⟨-, -, -, R, X9, os, b1, b2, b3, b4, b5, b6, b7, b8⟩ := hc
  have hV : isoV A sg idN R := isoV_of b2 b1.1
  have ec : R.1 = c := b3.1
  have hp : pm1 R := fun x hx => by
    rw [b3.2 x (by omega)]
    cases sg x
    · exact Or.inl rfl
    · exact Or.inr rfl
  obtain ⟨a3, a4⟩ := a3 c hA.1
  rw [← ec] at a3 a4
  have hoM := tabC_os b4.1
  obtain ⟨k1, k2⟩ := mv_join hV b1 hp (hpl _ _ hV hp) hA.2.2.2.2 hne hk a1.2.2.2.2 a3 a4 b4.1.2.1 hoM b5 b6 b7
  obtain ⟨Ns, n1, n2⟩ := mv_list k2
  refine ⟨by rw [a2, b8, k1], Ns, ⟨by rw [n1]; exact a1.1, by rw [n1]; exact a1.2.1, fun k A' sg' hN => ?_⟩, ⟨X9, os, b4, by rw [n1]; exact k1, fun k A' sg' hN => (n2 k A' sg' hN).2.1⟩, fun k A' sg' hN => ⟨(n2 k A' sg' hN).2.2.1, (n2 k A' sg' hN).2.2.2.1, (n2 k A' sg' hN).2.2.2.2⟩⟩
  obtain ⟨m1, -, m3, -, c', m5⟩ := n2 k A' sg' hN
  obtain ⟨j, j1, j2, j3⟩ := a1.2.2.1 k _ m1
  exact ⟨j, by omega, j2, m3, j3, ⟨c', m5.1, m5.2.2.2.1⟩, m5.2.2.2.2⟩
theorem c_moves (h : rel3 X z y) : Te (fun K => qe_X13_moves K x x' z) (fun rr => Te (fun K => ce_X11_moves vl K 0 x x' y) (fun rc => rel3 X rr.2 rc.2.2 ∧ ansI [(1, 1), (2, 2)] rr rc)) := by
  obtain ⟨⟨St, k⟩, hM, h2⟩ := id h
  refine te_two (xq_moves k.1 k.2.2.1) (te_and (tc_moves (x := x) (x' := x') hM) (xc_moves hM k.2.2.2.1 k.2.2.2.2)) (fun rr rc hr ⟨⟨hG, _⟩, hc⟩ => ?_)
  have same : ∀ {j k9 : Nat}, rFl X z j rr → (j, k9) ∈ [(1, 1), (2, 2)] → rc.1 = k9 → rc.2.2 = y → rel3 X rr.2 rc.2.2 ∧ ansI [(1, 1), (2, 2)] rr rc := fun hf hm e1 e2 => both_3 h (bo_fail k hf hm e1 (by rw [e2]; exact k.2.1) (by rw [e2]; exact fr_rf) (by rw [e2]; exact k.2.2.2.1))
  rcases hr with ⟨r1, r2⟩ | ⟨d, A, sg, hd, rfl, hSt, hr⟩
  · rcases hc with ⟨c1, c2, -⟩ | ⟨d, A, sg, c, hd, hx, hSt, -⟩
    · exact same r1 (by simp) c1 c2
    · rw [r2 d hd hx] at hSt
      cases hSt
  · rcases hc with ⟨-, -, c2⟩ | ⟨d', A', sg', c, hd', hx, hSt', hA, hne, hpl, hc⟩
    · rw [c2 d hd rfl] at hSt
      cases hSt
    · have ed := nI_inj9 (a := d) (b := d') (by omega) (by omega) hx
      subst ed
      rw [hSt] at hSt'
      cases hSt'
      rcases hr with ⟨r1, r2⟩ | ⟨kd, hk, rfl, hr⟩
      · rcases hc with ⟨c1, c2, -⟩ | ⟨kd, hk, rfl, -⟩
        · exact same r1 (by simp) c1 c2
        · exact absurd ⟨kd, hk, rfl⟩ r2
      · rcases hc with ⟨-, -, c2⟩ | ⟨kd', hk', hx', hc⟩
        · exact absurd ⟨kd, hk, rfl⟩ c2
        · have ek := nI_inj9 (a := kd) (b := kd') (by omega) (by omega) hx'
          subst ek
          obtain ⟨e1, Ns, q1, q2, q3⟩ := mv_both hk hA hne hpl hr hc
          obtain ⟨z1, z2, z3, -⟩ := hr
          obtain ⟨y1, y2, y3, -⟩ := hc
          obtain ⟨k1, k2, k3, -, Ns', k7, k8, k9⟩ := h2
          refine ⟨⟨⟨St, z1, y2, relR_fr z3 (by unfold fB9; omega) k.2.2.1, relC_fr y3 (fun q hq h9 => by unfold cW at hq; unfold coP cV at h9; omega) k.2.2.2.1, k.2.2.2.2⟩, hG, relT_k z3 y3 ⟨by unfold fB9; omega, by unfold fB9; omega⟩ ⟨by unfold coP cV; omega, by unfold coP cV; omega⟩ k1, relB_k z3 y3 ⟨by unfold fB9; omega, by unfold fB9; omega, by unfold fB9; omega⟩ ⟨by unfold coP cV; omega, by unfold coP cV; omega, by unfold coP cV; omega⟩ k2, brC_fr y3 ⟨by unfold coP cV; omega, by unfold coP cV; omega, by unfold coP cV; omega⟩ k3, ⟨Ns, q1, q2, q3⟩, Ns', rlR_k z3 ⟨by unfold fB9; omega, by unfold fB9; omega, by unfold fB9; omega⟩ k7, rlC_k y3 (fun q hq => by unfold cV at hq; unfold coP cV; omega) k8, k9⟩, Or.inl ⟨z2, y1, e1⟩⟩
end XME
end
section
/-! 99zzzzzzzzzzzo.xrow -/
/-! offers into rows in the order of their coming, exactly -/
def rwS (h : Nat) (z : ow_MS) (Ls : List (List Nat)) : Prop := (∀ (k : Nat) r, Ls[k]? = some r → rc_At z h (32 * k) r) ∧ (∀ j, j < Ls.length → dRow z h (32 * j)) ∧ Ls.Nodup
theorem rwS_fr {P : Nat → Prop} {z z1 : ow_MS} {h : Nat} {Ls : List (List Nat)} (hf : fr P z z1) (hP : ¬ P h) (hr : rwS h z Ls) : rwS h z1 Ls := ⟨fun k r hk => rc_fr hf hP (hr.1 k r hk), fun j hj => dRow_fr hf hP (hr.2.1 j hj), hr.2.2⟩
section XRO
variable {z : ow_MS} {h M la : Nat} {Ls : List (List Nat)} {F : List Nat}
theorem xm_offerRow (hla : (mX.2 h).2.1 = la) (ha : la < 2 ^ 30) (hh : h ≠ 27) (hM : Ls.length ≤ M) (hMl : 32 * M ≤ la) (hF : rc_At z 27 0 F) (hD : dRow z 27 0) (hR : rwS h z Ls) : Te (fun K => qe_X13_offerRow K h (nI Ls.length) (nI M) z) (fun r => ∃ Ls', r.1 = nI Ls'.length ∧ fr (fun g => g = h) z r.2 ∧ rwS h r.2 Ls' ∧ Ls'.length ≤ M ∧ (Ls' = Ls ∧ (F ∈ Ls ∨ Ls.length = M) ∨ F ∉ Ls ∧ Ls' = Ls ++ [F])) := by
  let Q : Int32 × ow_MS → Prop := fun r => ∃ Ls', r.1 = nI Ls'.length ∧ fr (fun g => g = h) z r.2 ∧ rwS h r.2 Ls' ∧ Ls'.length ≤ M ∧ (Ls' = Ls ∧ (F ∈ Ls ∨ Ls.length = M) ∨ F ∉ Ls ∧ Ls' = Ls ++ [F])
  have hl := hF.1
  obtain ⟨N, hN⟩ : ∃ N, N = Ls.length := ⟨_, rfl⟩
  rw [← hN] at hM
  have cp : N < M → F ∉ Ls → ∀ (d k : Nat) (z1 : ow_MS), k + d = F.length + 1 → fr (fun g => g = h) z z1 → (∀ i, i < k → z1.2.1 h (32 * N + i) = z.2.1 27 i) → (∀ i, i < 32 * N → z1.2.1 h i = z.2.1 h i) → Tt (fun K i => q_X13_offerRow K i 2 (nI N) (nI M) (nI k) h z1) Q := by
    intro hNM hno d
    induction d with
    | zero =>
      intro k z1 hk hf hc hi
      refine u_X13_offerRow_2 ?_; unfold qm_X13_offerRow_2
      refine w_rdI ml27 nI_0.symm (by omega) (x := nI F.length) (by rw [(hf 27 (fun e => hh e.symm)).2.1]; exact hF.2.2.1) (w_ltT (by omega) (by omega) (w_some ⟨Ls ++ [F], ?_, hf, ⟨fun j r hj => ?_, fun j hj => ?_, ?_⟩, ?_, Or.inr ⟨hno, rfl⟩⟩))
      · rw [List.length_append, ← hN]
        exact nI_1 N
      · by_cases hjN : j < N
        · rw [List.getElem?_append_left (by omega)] at hj
          exact rc_eq (fun i h1 h2 => hi i (by omega)) (hR.1 j r hj)
        · have h9 := (List.getElem?_eq_some_iff.mp hj).1
          rw [List.length_append, ← hN] at h9
          have h9 : j < N + 1 := h9
          have e : j = N := by omega
          subst e
          rw [List.getElem?_append_right (by omega), ← hN, Nat.sub_self] at hj
          cases hj
          exact rc_cp hF (fun i hi9 => hc i (by omega))
      · rw [List.length_append, ← hN] at hj
        have hj : j < N + 1 := hj
        by_cases hjN : j = N
        · rw [hjN]
          obtain ⟨A, sg, hv⟩ := hD
          have e := rc_uni hv.1 hF
          refine dRow_cp hv (fun i hi9 => hc i ?_)
          rw [e] at hi9
          omega
        · exact dRow_eq (fun i h1 h2 => hi i (by omega)) (hR.2.1 j (by omega))
      · rw [List.nodup_append]
        exact ⟨hR.2.2, List.nodup_cons.mpr ⟨List.not_mem_nil, List.nodup_nil⟩, fun a ha b hb e => hno (by rw [← List.mem_singleton.mp hb, ← e]; exact ha)⟩
      · rw [List.length_append, ← hN]
        exact hNM
    | succ d ih =>
      intro k z1 hk hf hc hi
      refine u_X13_offerRow_2 ?_; unfold qm_X13_offerRow_2
      rw [show (32 : Int32) * nI N = nI (32 * N) from pk_mul 32 N, nI_add, nI_1 k]
      refine w_rdI ml27 nI_0.symm (by omega) (x := nI F.length) (by rw [(hf 27 (fun e => hh e.symm)).2.1]; exact hF.2.2.1) (w_ltF (by omega) (by omega) (w_rdI ml27 rfl (by omega) (by rw [(hf 27 (fun e => hh e.symm)).2.1]) (w_wrI hla rfl (by omega) ?_)))
      refine ih (k + 1) _ (by omega) (fr_I2 hf rfl) (fun i hi9 => ?_) (fun i hi9 => rd_ne (by omega) (hi i hi9))
      by_cases hik : i = k
      · rw [hik, po_usI_at]
      · exact rd_ne (by omega) (hc i (by omega))
  have look : ∀ (d k : Nat), k + d = N → (∀ (i : Nat) r, i < k → Ls[i]? = some r → r ≠ F) → Tt (fun K i => q_X13_offerRow K i 1 (nI N) (nI M) (nI k) h z) Q := by
    intro d
    induction d with
    | zero =>
      intro k hk hbef
      have hno : F ∉ Ls := fun h9 => by
        obtain ⟨i, hi, e⟩ := List.getElem_of_mem h9
        exact hbef i _ (by omega) (List.getElem?_eq_getElem hi) e
      refine u_X13_offerRow_1 ?_; unfold qm_X13_offerRow_1
      exact w_leT (by omega) (by omega) (w_eqN (by omega) (by omega) (fun e => w_some ⟨Ls, by rw [hN], fr_rf, hR, by omega, Or.inl ⟨rfl, Or.inr (by omega)⟩⟩) (fun h9 => cp (by omega) hno _ 0 z (Nat.zero_add _) fr_rf (fun i hi => by omega) (fun i _ => rfl)))
    | succ d ih =>
      intro k hk hbef
      have hg : Ls[k]? = some Ls[k] := List.getElem?_eq_getElem (by omega)
      have hw := hR.1 k _ hg
      refine u_X13_offerRow_1 ?_; unfold qm_X13_offerRow_1
      rw [show (32 : Int32) * nI k = nI (32 * k) from pk_mul 32 k, nI_1]
      refine w_leF (by omega) (by omega) (w_cs1 (tr_same (o := 0) ml27 hla (by omega) ha (by omega) (by omega) hF hw) (fun a z1 e => ?_))
      cases e
      by_cases e : F = Ls[k]
      · refine w_ifF (by rw [decide_eq_true e]; decide) (w_some ⟨Ls, by rw [hN], fr_rf, hR, by omega, Or.inl ⟨rfl, Or.inl (by rw [e]; exact List.getElem_mem _)⟩⟩)
      · refine w_ifT (by rw [decide_eq_false e]; decide) (ih (k + 1) (by omega) (fun i r hi hr => ?_))
        by_cases hik : i = k
        · rw [hik, hg] at hr
          cases hr
          exact fun e9 => e e9.symm
        · exact hbef i r (by omega) hr
  have fin := look N 0 (by omega) (fun i r hi => by omega)
  rw [hN] at fin
  refine e_X13_offerRow ?_
  refine u_X13_offerRow_0 ?_; unfold qm_X13_offerRow_0
  exact fin
end XRO
end
section
/-! 99zzzzzzzzzzzp.xreach -/
/-! the class: all that moves of kinds 0, 2, 4 lead to, exactly -/
def k024 (kd : Nat) : Prop := kd = 0 ∨ kd = 2 ∨ kd = 4
def nxC (A : rn_L) (sg : Nat → Bool) (c : Nat) (R : ow_NT) : Prop := okL A c ∧ isoN A sg (fun x => x) R ∧ nv R ∧ sgR c sg R
def genC (Cs : List cdT) (C0 : cdT) : Prop := Cs[0]? = some C0 ∧ ∀ (i : Nat) C, Cs[i]? = some C → i = 0 ∨ ∃ i' A1 sg1 c R kd j, i' < i ∧ Cs[i']? = some (clC sg1 A1) ∧ nxC A1 sg1 c R ∧ k024 kd ∧ j < mv_cnt R.1 kd ∧ mvD kd R j C
def pcC (Cs : List cdT) (C : cdT) (kd : Nat) : Prop := ∃ A1 sg1 c R, C = clC sg1 A1 ∧ nxC A1 sg1 c R ∧ ∀ j, j < mv_cnt R.1 kd → mvN kd R j ∨ ∃ C', mvD kd R j C' ∧ (C' ∈ Cs ∨ Cs.length = 301)
def cloC (Cs : List cdT) : Prop := ∀ C, C ∈ Cs → ∀ kd, k024 kd → ∃ A1 sg1 c R, C = clC sg1 A1 ∧ nxC A1 sg1 c R ∧ ∀ j, j < mv_cnt R.1 kd → mvN kd R j ∨ ∃ C', mvD kd R j C' ∧ C' ∈ Cs
section XRE
variable {vl : Nat → Nat} {y : ow_MS} {Cs X : List cdT} {C C0 : cdT} {kd : Nat}
theorem tb_at2 {y : ow_MS} {g p s : Nat} {Cs : List cdT} {os : List Nat} (h : tbO y g p Cs os) (hs : s < Cs.length) : ∃ A sg c, okL A c ∧ slC y g s (clC sg A) ∧ Cs[s]? = some (clC sg A) := by
  obtain ⟨A, sg, c, h1, h2⟩ := h.2.2.1 Cs[s] (List.getElem_mem hs)
  have h3 := (h.1.2.2.1 s _ (List.getElem?_eq_getElem hs)).1
  have h4 := List.getElem?_eq_getElem hs
  rw [h2] at h3 h4
  exact ⟨A, sg, c, h1, h3, h4⟩
theorem pcC_app (hl : (Cs ++ X).length ≤ 301) (h : pcC Cs C kd) : pcC (Cs ++ X) C kd := by
  obtain ⟨A1, sg1, c, R, h1, h2, h3⟩ := h
  refine ⟨A1, sg1, c, R, h1, h2, fun j hj => (h3 j hj).imp id (fun ⟨C', k1, k2⟩ => ⟨C', k1, k2.imp (fun k => List.mem_append_left _ k) (fun k => ?_)⟩)⟩
  rw [List.length_append] at hl ⊢
  omega
theorem genC_app {i : Nat} {A1 : rn_L} {sg1 : Nat → Bool} {c : Nat} {R : ow_NT} (h : genC Cs C0) (hi : i < Cs.length) (hC : Cs[i]? = some (clC sg1 A1)) (hR : nxC A1 sg1 c R) (hk : k024 kd) (hX : ∀ C, C ∈ X → ∃ j, j < mv_cnt R.1 kd ∧ mvD kd R j C) : genC (Cs ++ X) C0 := by
  have up : ∀ {a : Nat} {D : cdT}, Cs[a]? = some D → (Cs ++ X)[a]? = some D := fun h9 => by
    rw [List.getElem?_append_left (List.getElem?_eq_some_iff.mp h9).1]
    exact h9
  refine ⟨up h.1, fun a D hD => ?_⟩
  by_cases ha : a < Cs.length
  · rw [List.getElem?_append_left ha] at hD
    rcases h.2 a D hD with h9 | ⟨i', A', sg', c', R', kd', j', q1, q2, q3⟩
    · exact Or.inl h9
    · exact Or.inr ⟨i', A', sg', c', R', kd', j', q1, up q2, q3⟩
  · rw [List.getElem?_append_right (by omega)] at hD
    obtain ⟨j, j1, j2⟩ := hX D (List.mem_of_getElem? hD)
    exact Or.inr ⟨i, A1, sg1, c, R, kd, j, by omega, up hC, hR, hk, j1, j2⟩
theorem xc_reach {d c : Nat} {A : rn_L} {sg : Nat → Bool} (hN : gM y) (hd : d < 40) (hs : slC y 1000 d (clC sg A)) (hA : okL A c) : Te (fun K => ce_X6_reach vl K 12000 1000 (nI d) y) (fun y1 => gM y1 ∧ fr (coP 13000) y y1 ∧ ∃ Cs os, tbO y1 13000 301 Cs os ∧ sts Cs os ∧ 0 < os.length ∧ genC Cs (clC sg A) ∧ (os.length ≤ 300 → cloC Cs)) := by
  let Q0 : ow_MS → Prop := fun y1 => gM y1 ∧ fr (coP 13000) y y1 ∧ ∃ Cs os, tbO y1 13000 301 Cs os ∧ sts Cs os ∧ 0 < os.length ∧ genC Cs (clC sg A) ∧ (os.length ≤ 300 → cloC Cs)
  have hg4 : 13000 = 2000 ∨ 13000 = 13000 ∨ 13000 = 14000 ∨ 13000 = 15000 := Or.inr (Or.inl rfl)
  have clo : ∀ {Cs : List cdT} {i : Nat}, Cs.length ≤ i → Cs.length ≤ 300 → (∀ (a : Nat) C, a < i → Cs[a]? = some C → ∀ kd, k024 kd → pcC Cs C kd) → cloC Cs := by
    intro Cs i h1 h2 h3 C hC kd hk
    obtain ⟨a, ha, e⟩ := List.getElem_of_mem hC
    obtain ⟨A1, sg1, c1, R1, q1, q2, q3⟩ := h3 a C (by omega) (by rw [List.getElem?_eq_getElem ha, e]) kd hk
    exact ⟨A1, sg1, c1, R1, q1, q2, fun j hj => (q3 j hj).imp id (fun ⟨C', k1, k2⟩ => ⟨C', k1, k2.elim id (fun k => by omega)⟩)⟩
  have c1 : ∀ (k i : Nat) (z : ow_MS) (Cs : List cdT) (os : List Nat), i + k = 302 → gN z → fr (coP 13000) y z → tbO z 13000 301 Cs os → sts Cs os → 0 < os.length → genC Cs (clC sg A) → (∀ (a : Nat) C, a < i → Cs[a]? = some C → ∀ kd, k024 kd → pcC Cs C kd) → Tt (fun K t => c_X6_reach vl K t 1 (nI d) (nI i) 12000 1000 z) Q0 := by
    intro k
    induction k with
    | zero =>
      intro i z Cs os hi q1 q2 q3 qs q4 qg qp
      have hl := q3.2.2.2.1
      have hCl : Cs.length = os.length := q3.1.2.1
      refine u_X6_reach_1 ?_; unfold cm_X6_reach_1
      exact w_rdF q3.1.1 (w_leT (by omega) (by omega) (w_some ⟨⟨q1, tbs_co (Or.inl rfl) q2 q3.2.2.2.2 hN.2⟩, q2, Cs, os, q3, qs, q4, qg, fun h9 => clo (i := i) (by omega) (by omega) qp⟩))
    | succ k ih =>
      intro i z Cs os hi q1 q2 q3 qs q4 qg qp
      have hl := q3.2.2.2.1
      have hCl : Cs.length = os.length := q3.1.2.1
      have fin : (os.length ≤ 300 → cloC Cs) → Tt (fun _ _ => some z) Q0 := fun h9 => w_some ⟨⟨q1, tbs_co (Or.inl rfl) q2 q3.2.2.2.2 hN.2⟩, q2, Cs, os, q3, qs, q4, qg, h9⟩
      refine u_X6_reach_1 ?_; unfold cm_X6_reach_1
      refine w_rdF q3.1.1 (w_le (by omega) (by omega) (fun h9 => fin (fun h8 => clo (i := i) (by omega) (by omega) qp)) (fun hio => w_rdF q3.1.1 (w_lt (a := 300) (by omega) (by omega) (fun h9 => fin (fun h8 => by omega)) (fun _ => ?_))))
      obtain ⟨B, sgB, cB, b1, b2, b3⟩ := tb_at2 q3 (show i < Cs.length by omega)
      refine w_cs0 (xc_collect (kd := 0) tH13 (show i < 301 by omega) (by omega) b2 b1 tH13 (by omega) (by omega) (tgk hg4) (by omega) q1 q3 qs) ?_
      rintro z1 ⟨g1, g2, R1, X1, os1, gn1, gi1, gr1, g5, gs1, gx1, gy1⟩
      have hl1 : (Cs ++ X1).length = os1.length := g5.1.2.1
      have hm1 := g5.2.2.2.1
      have hi1 : i < (Cs ++ X1).length := by rw [List.length_append]; omega
      obtain ⟨B1, sgB1, cB1, b11, b12, b13⟩ := tb_at2 g5 hi1
      refine w_cs0 (xc_collect (kd := 2) tH13 (show i < 301 by omega) (by omega) b12 b11 tH13 (by omega) (by omega) (tgk hg4) (by omega) g1 g5 gs1) ?_
      rintro z2 ⟨g1', g2', R2, X2, os2, gn2, gi2, gr2, g5', gs2, gx2, gy2⟩
      have hl2 : (Cs ++ X1 ++ X2).length = os2.length := g5'.1.2.1
      have hm2 := g5'.2.2.2.1
      have hi2 : i < (Cs ++ X1 ++ X2).length := by rw [List.length_append]; omega
      obtain ⟨B2, sgB2, cB2, b21, b22, b23⟩ := tb_at2 g5' hi2
      refine w_cs0 (xc_collect (kd := 4) tH13 (show i < 301 by omega) (by omega) b22 b21 tH13 (by omega) (by omega) (tgk hg4) (by omega) g1' g5' gs2) ?_
      rintro z3 ⟨g1'', g2'', R3, X3, os3, gn3, gi3, gr3, g5'', gs3, gx3, gy3⟩
      have hl3 : (Cs ++ X1 ++ X2 ++ X3).length = os3.length := g5''.1.2.1
      have hm3 := g5''.2.2.2.1
      have up : ∀ {L Y : List cdT} {a : Nat} {D : cdT}, L[a]? = some D → (L ++ Y)[a]? = some D := fun {L Y a D} h9 => by
        rw [List.getElem?_append_left (List.getElem?_eq_some_iff.mp h9).1]
        exact h9
      have G1 := genC_app (kd := 0) qg (by omega) b3 ⟨b1, gi1, gn1, gr1⟩ (Or.inl rfl) gx1
      have G2 := genC_app (kd := 2) G1 hi1 b13 ⟨b11, gi2, gn2, gr2⟩ (Or.inr (Or.inl rfl)) gx2
      have G3 := genC_app (kd := 4) G2 hi2 b23 ⟨b21, gi3, gn3, gr3⟩ (Or.inr (Or.inr rfl)) gx3
      have P1 : pcC (Cs ++ X1) (clC sgB B) 0 := ⟨B, sgB, cB, R1, rfl, ⟨b1, gi1, gn1, gr1⟩, fun j hj => (gy1 j hj).imp id (fun ⟨C', k1, k2⟩ => ⟨C', k1, k2.imp id (fun k => by rw [hl1, k])⟩)⟩
      have P2 : pcC (Cs ++ X1 ++ X2) (clC sgB1 B1) 2 := ⟨B1, sgB1, cB1, R2, rfl, ⟨b11, gi2, gn2, gr2⟩, fun j hj => (gy2 j hj).imp id (fun ⟨C', k1, k2⟩ => ⟨C', k1, k2.imp id (fun k => by rw [hl2, k])⟩)⟩
      have P3 : pcC (Cs ++ X1 ++ X2 ++ X3) (clC sgB2 B2) 4 := ⟨B2, sgB2, cB2, R3, rfl, ⟨b21, gi3, gn3, gr3⟩, fun j hj => (gy3 j hj).imp id (fun ⟨C', k1, k2⟩ => ⟨C', k1, k2.imp id (fun k => by rw [hl3, k])⟩)⟩
      have e1 : clC sgB1 B1 = clC sgB B := Option.some.inj (b13.symm.trans (up b3))
      have e2 : clC sgB2 B2 = clC sgB B := Option.some.inj (b23.symm.trans (up (up b3)))
      rw [e1] at P2
      rw [e2] at P3
      rw [nI_1]
      refine ih (i + 1) z3 _ os3 (by omega) g1'' (fr_tr q2 (fr_tr g2 (fr_tr g2' g2''))) g5'' gs3 (by rw [List.length_append, List.length_append, List.length_append] at hl3; omega) G3 (fun a D ha hD kd hkd => ?_)
      have b33 : (Cs ++ X1 ++ X2 ++ X3).length ≤ 301 := by omega
      have b32 : (Cs ++ X1 ++ X2).length ≤ 301 := by omega
      have b31 : (Cs ++ X1).length ≤ 301 := by omega
      by_cases hai : a = i
      · rw [hai, up (up (up b3))] at hD
        cases hD
        rcases hkd with e | e | e <;> subst e
        · exact pcC_app b33 (pcC_app b32 P1)
        · exact pcC_app b33 P2
        · exact P3
      · have ha2 : a < Cs.length := by omega
        have hD2 : Cs[a]? = some D := by
          rw [List.append_assoc, List.append_assoc, List.getElem?_append_left ha2] at hD
          exact hD
        exact pcC_app b33 (pcC_app b32 (pcC_app b31 (qp a D (by omega) hD2 kd hkd)))
  refine e_X6_reach ?_
  refine u_X6_reach_0 ?_; unfold cm_X6_reach_0
  have t0 := tbO_0 (p := 301) (show byR y (13000 + 1) from hN.2.2.2.1)
  have oC := (okL_c (sg := sg) hA).2
  refine w_wrF (w_cs0 (tc_addNew tH13 ch_1000 (by omega) hd t0.1 (Nat.zero_le _) (B := clC sg A) hs oC hN.1.1.1) ?_)
  rintro z1 ⟨a1, a2, a3⟩
  have f1 : fr (coP 13000) y z1 := fr_tr (fr_F (by unfold coP cV; omega)) (fr_mono (fun q hq => Or.inr (Or.inr hq)) a3)
  have n1 : gN z1 := by
    have hk := (gN_F (x := 0) (far_cP (g := 13005) (by omega)) hN.1)
    refine ⟨dgC_fr a3 (fun q q1 q2 h9 => by unfold cV at h9; omega) hk.1, nsC_fr a3 (fun h hh q hq h9 => far_cP (g := q) (by unfold cV at h9; omega) h hh hq) hk.2.1, kdC_fr a3 (fun q h9 => by unfold cV at h9; omega) hk.2.2⟩
  rcases a1 with ⟨⟨k, k1, k2⟩, -⟩ | ⟨k, k1, k2, k3⟩
  · exact absurd k1 (Nat.not_lt_zero _)
  · rw [if_pos (show ([] : List Nat).length < 301 from by show 0 < 301; omega)] at k3
    have k0 : k = 0 := Nat.le_zero.mp k1
    refine c1 302 0 z1 [clC sg A] (insO [] k ([] : List Nat).length) (by omega) n1 f1 ⟨k3, ?_, fun C hC => ?_, ?_, a2 t0.2.2.2.2⟩ ?_ ?_ ⟨rfl, fun i C hi => ?_⟩ (fun a C ha => absurd ha (Nat.not_lt_zero _))
    · intro i j hij hj
      rw [insO_len k1] at hj
      have : j < 1 := hj
      omega
    · rw [List.mem_singleton.mp hC]
      exact ⟨A, sg, c, hA, rfl⟩
    · rw [insO_len k1]
      show 0 + 1 ≤ 301
      omega
    · intro i j hij hj
      rw [insO_len k1] at hj
      have : j < 1 := hj
      omega
    · rw [insO_len k1]
      exact Nat.succ_pos _
    · have h9 : i < 1 := (List.getElem?_eq_some_iff.mp hi).1
      exact Or.inl (by omega)
end XRE
end
section
/-! 99zzzzzzzzzzzq.xsim -/
/-! the reference: all that moves of kinds 0, 2, 4 lead to, exactly -/
def fB3 (g : Nat) : Prop := 2 ≤ g ∧ g ≤ 9 ∨ 25 ≤ g ∧ g ≤ 27 ∨ 31 ≤ g ∧ g ≤ 34 ∨ 1000 ≤ g
def snk3 (X : (Nat → Nat → Int32) → Prop) (z0 : ow_MS) (L0 : List (List Nat)) (z : ow_MS) (S : List Nat → Prop) (n : Nat) : Prop := gI X z ∧ z.1 30 = nI 3 ∧ fr fB3 z0 z ∧ ∃ Ls, z.1 26 = nI Ls.length ∧ rwS 25 z Ls ∧ Ls.length ≤ 310 ∧ (∃ Y, Ls = L0 ++ Y) ∧ (∀ r, r ∈ Ls → S r) ∧ (Ls.length < 310 → ∀ r, S r → r ∈ Ls)
theorem snk3_ok {X : (Nat → Nat → Int32) → Prop} {z0 : ow_MS} {L0 : List (List Nat)} : snkF (snk3 X z0 L0) := by
  refine ⟨fun P z z1 S n hf hP h => ?_, fun z S n A sg hn h hA hG hF h24 h6 => ?_, fun z S n n' hn h => h⟩
  · obtain ⟨h1, h2, h3, Ls, h4, h5, h6⟩ := h
    refine ⟨gI_fr hf (fun g hg => by have := hP g hg; unfold per; omega) h1, by rw [(hf 30 (fun h9 => by have := hP _ h9; omega)).1]; exact h2, fr_tr h3 (fr_mono (fun g hg => by have := hP g hg; unfold fB3; omega) hf), Ls, by rw [(hf 26 (fun h9 => by have := hP _ h9; omega)).1]; exact h4, rwS_fr hf (fun h9 => by have := hP _ h9; omega) h5, h6⟩
  · obtain ⟨h1, h2, h3, Ls, h4, h5, h7, ⟨Y, h8⟩, h9, h10⟩ := h
    refine e_X13_offer ?_; unfold qm_X13_offer_0
    refine w_cs0 (tr_pack (o := 0) pn3 (by omega) ml27 (by omega) (by omega) (by omega) (by omega) hF hA hG) (fun z1 ⟨m, P, g1, g2, g3, g4, _, _⟩ => ?_)
    have i1 : gI X z1 := gI_fr g3 (fun g hg => by unfold frQ at hg; unfold per; omega) h1
    have i2 : z1.1 30 = nI 3 := by rw [(g3 30 (by unfold frQ; omega)).1]; exact h2
    have i3 : rwS 25 z1 Ls := rwS_fr g3 (by unfold frQ; omega) h5
    have i4 : z1.1 26 = nI Ls.length := by rw [(g3 26 (by unfold frQ; omega)).1]; exact h4
    have f1 : fr fB3 z z1 := fr_mono (fun g hg => by unfold frQ at hg; unfold fB3; omega) g3
    refine w_rdF i2 (w_ifT (by decide) (w_rdF i4 (w_cs1 (xm_offerRow (M := 310) ml25 (by omega) (by omega) h7 (by omega) g2 (dRow_pack hF g1 h24 h6 g2) i3) (fun a z2 ⟨Ls', k1, k2, k3, k4, k5⟩ => w_wrF (w_some ?_)))))
    have k1 : a = nI Ls'.length := k1
    have f2 : fr (fun g => g = 25 ∨ g = 26) z1 (usF z2 26 a) := fr_F2 (fr_mono (fun g hg => Or.inl hg) k2) (Or.inr rfl)
    refine ⟨⟨fun r => r = pkR A sg m P ∨ S r, ⟨fun r hr => Or.inr hr, fun r hr => ?_, fun A' sg' ⟨e1, e2⟩ => ?_⟩, gI_fr f2 (fun g hg => by unfold per; omega) i1, by rw [(f2 30 (by omega)).1]; exact i2, fr_tr h3 (fr_tr f1 (fr_mono (fun g hg => by unfold fB3; omega) f2)), Ls', by rw [po_usF_at, k1], rwS_fr (P := fun g => g = 26) (fr_F rfl) (by decide) k3, k4, ?_, fun r hr => ?_, fun hlt r hr => ?_⟩, ?_⟩
    · rcases hr with hr | hr
      · exact Or.inr ⟨A, sg, ⟨rfl, rfl⟩, m, P, g1, hr⟩
      · exact Or.inl hr
    · rw [e1, e2]
      exact ⟨_, Or.inl rfl, m, P, g1, rfl⟩
    · rcases k5 with ⟨e, -⟩ | ⟨-, e⟩
      · exact ⟨Y, by rw [e, h8]⟩
      · exact ⟨Y ++ [pkR A sg m P], by rw [e, h8, List.append_assoc]⟩
    · rcases k5 with ⟨e, -⟩ | ⟨-, e⟩
      · rw [e] at hr
        exact Or.inr (h9 r hr)
      · rw [e] at hr
        rcases List.mem_append.mp hr with hr | hr
        · exact Or.inr (h9 r hr)
        · exact Or.inl (List.mem_singleton.mp hr)
    · rcases k5 with ⟨e, hm⟩ | ⟨-, e⟩
      · rw [e] at hlt ⊢
        rcases hr with hr | hr
        · rcases hm with hm | hm
          · rw [hr]
            exact hm
          · omega
        · exact h10 hlt r hr
      · rw [e] at hlt ⊢
        rw [List.length_append] at hlt
        rcases hr with hr | hr
        · rw [hr]
          exact List.mem_append_right _ (List.mem_singleton.mpr rfl)
        · exact List.mem_append_left _ (h10 (by omega) r hr)
    · exact fr_tr (fr_mono (fun g hg => by unfold frQ at hg; unfold frO; omega) g3) (fr_mono (fun g hg => Or.inl (by omega)) f2)
def nxR (r : List Nat) (A : rn_L) (sg : Nat → Bool) (c : Nat) : Prop := r = tk sg A ∧ okF A.flatten c ∧ c ≤ 12 ∧ A.length ≤ 6
def genR (Ls : List (List Nat)) (r0 : List Nat) : Prop := Ls[0]? = some r0 ∧ ∀ (i : Nat) r, Ls[i]? = some r → i = 0 ∨ ∃ i' r' A sg c kd A' sg', i' < i ∧ Ls[i']? = some r' ∧ nxR r' A sg c ∧ k024 kd ∧ OM A sg c kd A' sg' ∧ nfR A' sg' r
def pcR (Ls : List (List Nat)) (r : List Nat) (kd : Nat) : Prop := ∃ A sg c, nxR r A sg c ∧ ∀ A' sg', OM A sg c kd A' sg' → (∃ r', r' ∈ Ls ∧ nfR A' sg' r') ∨ Ls.length = 310
def cloR (Ls : List (List Nat)) : Prop := ∀ r, r ∈ Ls → ∀ kd, k024 kd → ∃ A sg c, nxR r A sg c ∧ ∀ A' sg', OM A sg c kd A' sg' → ∃ r', r' ∈ Ls ∧ nfR A' sg' r'
section XSI
variable {X : (Nat → Nat → Int32) → Prop} {z : ow_MS} {St : plT} {x : Int32} {Ls Y : List (List Nat)} {r r0 : List Nat} {kd : Nat}
theorem pcR_app (hl : (Ls ++ Y).length ≤ 310) (h : pcR Ls r kd) : pcR (Ls ++ Y) r kd := by
  obtain ⟨A, sg, c, h1, h2⟩ := h
  refine ⟨A, sg, c, h1, fun A' sg' hO => (h2 A' sg' hO).imp (fun ⟨r', k1, k2⟩ => ⟨r', List.mem_append_left _ k1, k2⟩) (fun k => ?_)⟩
  rw [List.length_append] at hl ⊢
  omega
theorem genR_app {i : Nat} {A : rn_L} {sg : Nat → Bool} {c : Nat} (h : genR Ls r0) (hi : Ls[i]? = some r) (hR : nxR r A sg c) (hk : k024 kd) (hY : ∀ s, s ∈ Y → ∃ A' sg', OM A sg c kd A' sg' ∧ nfR A' sg' s) : genR (Ls ++ Y) r0 := by
  have up : ∀ {a : Nat} {D : List Nat}, Ls[a]? = some D → (Ls ++ Y)[a]? = some D := fun h9 => by
    rw [List.getElem?_append_left (List.getElem?_eq_some_iff.mp h9).1]
    exact h9
  have hil := (List.getElem?_eq_some_iff.mp hi).1
  refine ⟨up h.1, fun a D hD => ?_⟩
  by_cases ha : a < Ls.length
  · rw [List.getElem?_append_left ha] at hD
    rcases h.2 a D hD with h9 | ⟨i', r', A9, sg9, c9, kd9, A', sg', q1, q2, q3⟩
    · exact Or.inl h9
    · exact Or.inr ⟨i', r', A9, sg9, c9, kd9, A', sg', q1, up q2, q3⟩
  · rw [List.getElem?_append_right (by omega)] at hD
    obtain ⟨A', sg', j1, j2⟩ := hY D (List.mem_of_getElem? hD)
    exact Or.inr ⟨i, r, A, sg, c, kd, A', sg', by omega, up hi, hR, hk, j1, j2⟩
def sim9 (X : (Nat → Nat → Int32) → Prop) (z : ow_MS) (St : plT) (e : Nat) (r0 : List Nat) (r : Int32 × ow_MS) : Prop := ∃ Ls, Ls.Nodup ∧ genR Ls r0 ∧ (300 < Ls.length ∧ r.1 = -2 ∧ gI X r.2 ∧ r.2.1 1 = 0 ∧ fr (fun g => g = 1 ∨ g = 30 ∨ fB3 g) z r.2 ∨ Ls.length ≤ 300 ∧ cloR Ls ∧ ∃ B sgB, tk sgB B ∈ Ls ∧ (∀ r', r' ∈ Ls → lsr r' (tk sgB B) = false) ∧ (∀ p, p ∈ B.flatten → p.2 < 2) ∧ (B ≠ [] → r.1 = nI e ∧ gI X r.2 ∧ r.2.1 1 = 0 ∧ fr (fun g => g = 1 ∨ g = 12 ∨ g = 30 ∨ fB3 g) z r.2 ∧ relR r.2 (upP St e (some (B, sgB)))))
theorem xq_simplify (h : gI X z) (hR : relR z St) : Te (fun K => qe_X13_simplify K x z) (fun r => (rFl X z 1 r ∧ ∀ d, d < 40 → x = nI d → St d = none) ∨ ∃ d A sg, d < 40 ∧ x = nI d ∧ St d = some (A, sg) ∧ (rFl X z 2 r ∧ allF St ∨ ∃ e, lstF St e ∧ sim9 X z St e (tk sg A) r)) := by
  have h1 := gI_1 (c := 0) h
  have hR1 := relR_1 (c := 0) hR
  refine e_X13_simplify ?_
  refine u_X13_simplify_0 ?_; unfold qm_X13_simplify_0
  refine w_wrF (w_hasX hR1 (fun h0 => w_ifT rfl (w_mono (w_failX (k := 1) h1 fr_1) (fun r hr => Or.inl ⟨hr, h0⟩))) (fun d A sg hd hx hSt hv hne => w_ifF (by decide) (w_freeX hR1 (fun h0 => w_ifT rfl (w_mono (w_failX (k := 2) h1 fr_1) (fun r hr => Or.inr ⟨d, A, sg, hd, hx, hSt, Or.inl ⟨hr, h0⟩⟩))) (fun f hlf => w_ifF (rn_neg1 (by have := hlf.1; omega)) ?_))))
  subst hx
  have hl := hv.1.1
  refine w_mono (R := fun r => sim9 X z St f (tk sg A) r) ?_ (fun r hr => Or.inr ⟨d, A, sg, hd, rfl, hSt, Or.inr ⟨f, hlf, hr⟩⟩)
  let Q : Int32 × ow_MS → Prop := fun r => sim9 X z St f (tk sg A) r
  let J : List (List Nat) → ow_MS → Prop := fun Ls y => gI X y ∧ y.1 30 = nI 3 ∧ fr (fun g => g = 30 ∨ fB3 g) (usF z 1 0) y ∧ y.1 26 = nI Ls.length ∧ rwS 25 y Ls ∧ Ls.length ≤ 310
  let I : List (List Nat) → Nat → Nat → Prop := fun Ls at9 le => genR Ls (tk sg A) ∧ (∀ (a : Nat) r, a < at9 → Ls[a]? = some r → ∀ kd, k024 kd → pcR Ls r kd) ∧ le < Ls.length ∧ ∀ (a : Nat) r rl, a < at9 → Ls[a]? = some r → Ls[le]? = some rl → lsr r rl = false
  have z1 : (usF z 1 0).1 1 = 0 := po_usF_at
  have c5 : ∀ (le at9 : Nat) (Ls : List (List Nat)) (y : ow_MS), J Ls y → I Ls at9 le → (Ls.length ≤ at9 ∨ 300 < Ls.length) → Tt (fun K i => q_X13_simplify K i 5 (nI d) (nI le) (nI at9) 0 y) Q := by
    intro le at9 Ls y ⟨j1, j2, j3, j4, j5, j6⟩ ⟨i1, i2, i3, i4⟩ hex
    have e1 : y.1 1 = 0 := by rw [(j3 1 (by unfold fB3; omega)).1]; exact z1
    refine u_X13_simplify_5 ?_; unfold qm_X13_simplify_5
    rw [show (32 : Int32) * nI le = nI (32 * le) from pk_mul 32 le]
    refine w_rdF j4 (w_le (b := 300) (by omega) (by omega) (fun h300 => ?_) (fun h300 => w_some ⟨Ls, j5.2.2, i1, Or.inl ⟨h300, rfl, j1, e1, fr_tr (fr_F (Or.inl rfl)) (fr_mono (fun g hg => Or.inr hg) j3)⟩⟩))
    have hat : Ls.length ≤ at9 := by omega
    have clo : cloR Ls := by
      intro r hr kd hk
      obtain ⟨a, ha, e⟩ := List.getElem_of_mem hr
      obtain ⟨A1, sg1, c1, q1, q2⟩ := i2 a r (by omega) (by rw [List.getElem?_eq_getElem ha, e]) kd hk
      exact ⟨A1, sg1, c1, q1, fun A' sg' hO => (q2 A' sg' hO).elim id (fun k => by omega)⟩
    have hle : Ls[le]? = some Ls[le] := List.getElem?_eq_getElem i3
    obtain ⟨B, sgB, hw⟩ := j5.2.1 le i3
    have eB : tk sgB B = Ls[le] := rc_uni hw.1 (j5.1 le _ hle)
    have least : ∀ r', r' ∈ Ls → lsr r' (tk sgB B) = false := by
      intro r' hr'
      obtain ⟨a, ha, e⟩ := List.getElem_of_mem hr'
      rw [eB]
      exact i4 a r' _ (by omega) (by rw [List.getElem?_eq_getElem ha, e]) hle
    have hu : ∀ p, p ∈ B.flatten → p.2 < 2 := fun p hp => by
      obtain ⟨c9, hc9, -⟩ := hw.2.1
      exact ((hc9.2 p).mp hp).2
    have hRy : relR y St := relR_fr j3 (by unfold fB3; omega) hR1
    by_cases hB : B = []
    · have hT := tm_keepRow j1 (frD_of hRy hlf) (by omega) ml25 (by omega) (by omega) (j5.2.1 le i3)
      refine w_cs1 hT (fun a y1 h9 => w_some ⟨Ls, j5.2.2, i1, Or.inr ⟨h300, clo, B, sgB, by rw [eB]; exact List.getElem_mem _, least, hu, fun h8 => absurd hB h8⟩⟩)
    · refine w_cs1 (xr_keepRow j1 hRy hlf (by omega) ml25 (by omega) (by omega) hw hB) (fun a y1 ⟨q1, q2, q3, q4⟩ => w_some ⟨Ls, j5.2.2, i1, Or.inr ⟨h300, clo, B, sgB, by rw [eB]; exact List.getElem_mem _, least, hu, fun _ => ⟨q2, q1, ?_, ?_, q4⟩⟩⟩)
      · show y1.1 1 = 0
        rw [(q3 1 (by omega)).1]
        exact e1
      · refine fr_tr (fr_F (Or.inl rfl)) (fr_tr (fr_mono (fun g hg => ?_) j3) (fr_mono (fun g hg => Or.inr (Or.inl hg)) q3))
        rcases hg with hg | hg
        · exact Or.inr (Or.inr (Or.inl hg))
        · exact Or.inr (Or.inr (Or.inr hg))
  have main : ∀ (k at9 le : Nat) (Ls : List (List Nat)) (y : ow_MS), at9 + k = 311 → J Ls y → I Ls at9 le → Tt (fun K i => q_X13_simplify K i 2 (nI d) (nI le) (nI at9) 0 y) Q := by
    intro k
    induction k with
    | zero =>
      intro at9 le Ls y ha hj hi
      have j6 := hj.2.2.2.2.2
      refine u_X13_simplify_2 ?_; unfold qm_X13_simplify_2
      exact w_rdF hj.2.2.2.1 (w_leT (by omega) (by omega) (c5 le at9 Ls y hj hi (Or.inl (by omega))))
    | succ k ih =>
      intro at9 le Ls y ha hj hi
      have kinds : ∀ (j kd le2 : Nat) (Ls : List (List Nat)) (y : ow_MS), kd + 2 * j = 6 → J Ls y → genR Ls (tk sg A) → (∀ (a : Nat) r, a < at9 → Ls[a]? = some r → ∀ kd, k024 kd → pcR Ls r kd) → le2 < Ls.length → (∀ (a : Nat) r rl, a < at9 + 1 → Ls[a]? = some r → Ls[le2]? = some rl → lsr r rl = false) → at9 < Ls.length → (∀ r, Ls[at9]? = some r → ∀ kd', k024 kd' → kd' < kd → pcR Ls r kd') → Tt (fun K i => q_X13_simplify K i 4 (nI d) (nI le2) (nI at9) (nI kd) y) Q := by
        intro j
        induction j with
        | zero =>
          intro kd le2 Ls y hkd hj g1 g2 g3 g4 g5 g6
          refine u_X13_simplify_4 ?_; unfold qm_X13_simplify_4
          rw [nI_1]
          refine w_leT (a := 5) (by omega) (by omega) (ih (at9 + 1) le2 Ls y (by omega) hj ⟨g1, fun a r ha9 hr kd' hk' => ?_, g3, g4⟩)
          by_cases e : a = at9
          · rw [e] at hr
            exact g6 r hr kd' hk' (by rcases hk' with h9 | h9 | h9 <;> omega)
          · exact g2 a r (by omega) hr kd' hk'
        | succ j ihj =>
          intro kd le2 Ls y hkd hj g1 g2 g3 g4 g5 g6
          obtain ⟨j1, j2, j3, j4, j5, j6⟩ := hj
          have hk0 : k024 kd := by unfold k024; omega
          obtain ⟨B, sg2, hw⟩ := j5.2.1 at9 g5
          have hat : Ls[at9]? = some Ls[at9] := List.getElem?_eq_getElem g5
          have eB : tk sg2 B = Ls[at9] := rc_uni hw.1 (j5.1 at9 _ hat)
          obtain ⟨c9, hc1, hc2⟩ := hw.2.1
          have hnx : nxR Ls[at9] B sg2 c9 := ⟨eB.symm, hc1, hc2, hw.2.2⟩
          refine u_X13_simplify_4 ?_; unfold qm_X13_simplify_4
          rw [show (32 : Int32) * nI at9 = nI (32 * at9) from pk_mul 32 at9, show nI kd + 2 = nI (kd + 2) from nI_add kd 2]
          refine w_leF (a := 5) (by omega) (by omega) (w_cs0 (to_unpack (by omega) ml25 (by omega) (by omega) hw) (fun y1 ⟨a1, a2, a3⟩ => w_cs0 (to_link hw a1 a2) (fun y2 ⟨b1, b2⟩ => ?_)))
          have f12 : fr fB3 y y2 := fr_tr (fr_mono (fun g hg => by unfold fB3; omega) a3) (fr_mono (fun g hg => by unfold fB3; omega) b2)
          have hs2 : snk3 X y2 Ls y2 (fun r => r ∈ Ls) 0 := by
            refine ⟨gI_net pn1 (fr_tr (fr_mono (fun g hg => by omega) a3) (fr_mono (fun g hg => by omega) b2)) (fun g hg => hg) j1, ?_, fr_rf, Ls, ?_, rwS_fr b2 (by omega) (rwS_fr a3 (by omega) j5), j6, ⟨[], (List.append_nil _).symm⟩, fun r hr => hr, fun _ r hr => hr⟩
            · rw [(b2 30 (by omega)).1, (a3 30 (by omega)).1]
              exact j2
            · rw [(b2 26 (by omega)).1, (a3 26 (by omega)).1]
              exact j4
          refine w_cs0 (xr_try snk3_ok pn1 (by omega) hc1 (show kd < 5 by omega) b1 hs2) (fun y3 ⟨⟨S', s1, s2, s3, s4, Ls', s5, s6, s7, ⟨Yy, s8⟩, s9, s10⟩, _⟩ => ?_)
          subst s8
          have up : ∀ {a : Nat} {D : List Nat}, Ls[a]? = some D → (Ls ++ Yy)[a]? = some D := fun h9 => by
            rw [List.getElem?_append_left (List.getElem?_eq_some_iff.mp h9).1]
            exact h9
          have dn : ∀ {a : Nat} {D : List Nat}, a < Ls.length → (Ls ++ Yy)[a]? = some D → Ls[a]? = some D := fun h8 h9 => by
            rw [List.getElem?_append_left h8] at h9
            exact h9
          have nd := List.nodup_append.mp s6.2.2
          have G := genR_app (Y := Yy) (kd := kd) g1 hat hnx hk0 (fun s hs => by
            rcases s1.2.1 s (s9 s (List.mem_append_right _ hs)) with h9 | h9
            · exact absurd rfl (nd.2.2 s h9 s hs)
            · exact h9)
          refine ihj (kd + 2) le2 (Ls ++ Yy) y3 (by omega) ⟨s2, s3, fr_tr j3 (fr_mono (fun g hg => Or.inr hg) (fr_tr f12 s4)), s5, s6, s7⟩ G (fun a r ha9 hr kd' hk' => pcR_app s7 (g2 a r ha9 (dn (by omega) hr) kd' hk')) (by rw [List.length_append]; omega) (fun a r rl ha9 hr hrl => g4 a r rl ha9 (dn (by omega) hr) (dn g3 hrl)) (by rw [List.length_append]; omega) (fun r hr kd' hk' hlt => ?_)
          have hr := dn g5 hr
          by_cases e : kd' = kd
          · rw [hat] at hr
            cases hr
            subst e
            refine ⟨B, sg2, c9, hnx, fun A' sg' hO => ?_⟩
            obtain ⟨r', q1, q2⟩ := s1.2.2 A' sg' hO
            by_cases hlt : (Ls ++ Yy).length < 310
            · exact Or.inl ⟨r', s10 hlt r' q1, q2⟩
            · exact Or.inr (by omega)
          · exact pcR_app s7 (g6 r hr kd' hk' (by rcases hk' with h9 | h9 | h9 <;> rcases hk0 with h8 | h8 | h8 <;> omega))
      obtain ⟨i1, i2, i3, i4⟩ := id hi
      obtain ⟨j1, j2, j3, j4, j5, j6⟩ := id hj
      refine u_X13_simplify_2 ?_; unfold qm_X13_simplify_2
      refine w_rdF j4 (w_le (by omega) (by omega) (fun h9 => c5 le at9 Ls y hj hi (Or.inl h9)) (fun hat => w_rdF j4 (w_lt (a := 300) (by omega) (by omega) (fun h9 => c5 le at9 Ls y hj hi (Or.inr h9)) (fun h300 => ?_))))
      have e1 : Ls[at9]? = some Ls[at9] := List.getElem?_eq_getElem hat
      have e2 : Ls[le]? = some Ls[le] := List.getElem?_eq_getElem i3
      have w1 := j5.1 at9 _ e1
      have w2 := j5.1 le _ e2
      have wl1 := w1.1
      have wl2 := w2.1
      rw [show (32 : Int32) * nI at9 = nI (32 * at9) from pk_mul 32 at9, show (32 : Int32) * nI le = nI (32 * le) from pk_mul 32 le]
      refine w_cs1 (tr_lesser ml25 ml25 (by omega) (by omega) (by omega) (by omega) w1 w2) (fun a y9 e9 => ?_)
      cases e9
      cases hls : lsr Ls[at9] Ls[le] with
      | false =>
        refine w_ifT rfl ?_
        refine u_X13_simplify_3 ?_; unfold qm_X13_simplify_3
        refine kinds 3 0 le Ls y (by omega) hj i1 i2 i3 (fun a r rl ha9 hr hrl => ?_) hat (fun r hr kd' hk' hlt => absurd hlt (Nat.not_lt_zero _))
        by_cases e : a = at9
        · rw [e, e1] at hr
          rw [e2] at hrl
          cases hr
          cases hrl
          exact hls
        · exact i4 a r rl (by omega) hr hrl
      | true =>
        refine w_ifF (by decide) ?_
        refine u_X13_simplify_3 ?_; unfold qm_X13_simplify_3
        refine kinds 3 0 at9 Ls y (by omega) hj i1 i2 hat (fun a r rl ha9 hr hrl => ?_) hat (fun r hr kd' hk' hlt => absurd hlt (Nat.not_lt_zero _))
        rw [e1] at hrl
        cases hrl
        by_cases e : a = at9
        · rw [e, e1] at hr
          cases hr
          exact lsr_irr
        · cases h9 : lsr r Ls[at9] with
          | false => rfl
          | true =>
            have := i4 a r _ (by omega) hr e2
            rw [lsr_tr h9 hls] at this
            cases this
  have cp : ∀ (j k : Nat) (y : ow_MS), k + j = (tk sg A).length + 1 → fr (fun g => g = 25) (usF z 1 0) y → (∀ i, i < k → y.2.1 25 i = (usF z 1 0).2.1 12 (32 * d + i)) → Tt (fun K i => q_X13_simplify K i 1 (nI d) (nI k) 0 0 y) Q := by
    intro j
    induction j with
    | zero =>
      intro k y hk hf2 hc
      have e12 := (hf2 12 (by omega)).2.1
      refine u_X13_simplify_1 ?_; unfold qm_X13_simplify_1
      rw [show (32 : Int32) * nI d = nI (32 * d) from pk_mul 32 d]
      refine w_rdI ml12 rfl (by omega) (x := nI (tk sg A).length) (by rw [e12]; exact hv.1.2.2.1) (w_ltT (by omega) (by omega) (w_wrF (w_wrF ?_)))
      have f3 : fr (fun g => g = 25 ∨ g = 26 ∨ g = 30) (usF z 1 0) (usF (usF y 26 1) 30 3) := fr_F2 (fr_F2 (fr_mono (fun g hg => by omega) hf2) (by omega)) (by omega)
      have hrow : vRow (usF (usF y 26 1) 30 3) 25 0 A sg := cp_row hv (fun i hi => hc i (by omega))
      have h26 : (usF (usF y 26 1) 30 3).1 26 = nI 1 := rf_ot (by omega) po_usF_at
      refine main 311 0 0 [tk sg A] _ (by omega) ⟨gI_fr f3 (fun g hg => by unfold per; omega) h1, po_usF_at, fr_mono (fun g hg => by unfold fB3; omega) f3, h26, ⟨fun k r hk => ?_, fun j hj => ?_, List.nodup_cons.mpr ⟨List.not_mem_nil, List.nodup_nil⟩⟩, by show 1 ≤ 310; omega⟩ ⟨⟨rfl, fun i r hi => ?_⟩, fun a r ha => absurd ha (Nat.not_lt_zero _), Nat.succ_pos _, fun a r rl ha => absurd ha (Nat.not_lt_zero _)⟩
      · have hk1 : k < 1 := (List.getElem?_eq_some_iff.mp hk).1
        have e : k = 0 := by omega
        subst e
        cases hk
        exact hrow.1
      · have hj : j < 1 := hj
        have e : j = 0 := by omega
        subst e
        exact ⟨A, sg, hrow⟩
      · have h9 : i < 1 := (List.getElem?_eq_some_iff.mp hi).1
        exact Or.inl (by omega)
    | succ j ih =>
      intro k y hk hf2 hc
      have e12 := (hf2 12 (by omega)).2.1
      refine u_X13_simplify_1 ?_; unfold qm_X13_simplify_1
      rw [show (32 : Int32) * nI d = nI (32 * d) from pk_mul 32 d, nI_add, nI_1]
      refine w_rdI ml12 rfl (by omega) (x := nI (tk sg A).length) (by rw [e12]; exact hv.1.2.2.1) (w_ltF (by omega) (by omega) (w_rdI ml12 rfl (by omega) (by rw [e12]) (w_wrI ml25 rfl (by omega) (ih (k + 1) _ (by omega) (fr_I2 hf2 rfl) (fun i hi => ?_)))))
      by_cases hik : i = k
      · rw [hik, po_usI_at]
      · exact rd_ne hik (hc i (by omega))
  exact cp ((tk sg A).length + 1) 0 (usF z 1 0) (by omega) fr_rf (fun i hi => by omega)
end XSI
end
section
/-! 99zzzzzzzzzzzr.xsim2 -/
/-! both sides: simplify -/
section XS2
variable {A A1 A2 A3 : rn_L} {sg sg1 sg2 sg3 : Nat → Bool} {R : ow_NT} {c c1 c2 c3 kd : Nat}
/-- a code and a row of one net that a move makes -/
theorem jn9 {A' : rn_L} {sg' : Nat → Bool} {f : Nat → Nat} {F P : Nat → Int32} {Q : ow_NT} {j : Nat} {Ds : List cdT} {qs : List Nat} {r : List Nat} (hR : nv R) (hp : pm1 R) (hpl : nt_plane R = true) (h6 : A.length ≤ 6) (hne : A ≠ []) (hk : kd < 5) (hO : OM A sg R.1 kd A' sg') (hj : j < mv_cnt R.1 kd) (hmk : mv_mk kd R F P) (hQ : ow_b24 Q.2.2.1) (hB : mv_B kd j Q R F P = true) (hi : isoV A' sg' f (mv_T kd j Q R F P)) (hZ : cpZ (mv_T kd j Q R F P) (np_parts (mv_T kd j Q R F P).1 (mv_T kd j Q R F P).2.2.1.1).2 Ds qs) (hr : nfR A' sg' r) : crP (enC (mv_T kd j Q R F P) Ds qs) r := by
  obtain ⟨m, Pp, hmk9, rfl⟩ := hr
  have hl9 := OM_len hO
  have hnv := (mv_nv hR hk F P Q j hmk hQ hj).2 hB
  obtain ⟨A2, sg2, e1, e2, e3, e4, f', e5⟩ := enc_iso (isoS_iff.mp hi.1) (by omega) hnv hmk9 hZ
  have hpp := mv_pl hR hp hpl hk hQ hj hB
  refine ⟨A2, sg2, _, e2, e3, e1, fun e => ?_, plnA_of e5 hpp.2 hpp.1⟩
  rw [e] at e4
  have : A.length ≠ 0 := fun e9 => hne (List.eq_nil_of_length_eq_zero e9)
  have e4 : 0 = _ := e4
  omega
theorem okL_u (h : okL A c) : ∀ p, p ∈ A.flatten → p.2 < 2 := fun p hp => ((h.1.2 p).mp hp).2
/-- the net of a code is the net of its row -/
theorem same9 (h1 : nxC A1 sg1 c1 R) (e12 : clC sg1 A1 = clC sg2 A2) (h2 : okL A2 c2) (hpl : plnA A2 sg2) (h3 : nxR (tk sg2 A2) A3 sg3 c3) : isoV A3 sg3 idN R ∧ pm1 R ∧ nt_plane R = true ∧ c3 = R.1 ∧ A3 = A2 := by
  obtain ⟨k1, k2, k3, k4⟩ := h1
  obtain ⟨q1, q2, q3⟩ := clC_inj k1 h2 e12
  subst q1
  obtain ⟨r1, r2⟩ := tk_inj A1 A3 (okL_u k1) (fun p hp => ((h3.2.1.2 p).mp hp).2) h3.1
  subst r1
  have hV : isoV A1 sg1 idN R := isoV_of k2 k3.1
  have s1 : ∀ p, p ∈ A1.flatten → sg3 p.1 = sg1 p.1 := fun p hp => by
    rw [← r2 p hp, q3 p.1 ((k1.1.2 p).mp hp).1]
  have s2 : ∀ p, p ∈ A1.flatten → sg2 p.1 = sg1 p.1 := fun p hp => (q3 p.1 ((k1.1.2 p).mp hp).1).symm
  have hp : pm1 R := fun x hx => by
    rw [k4.2 x (by have := k4.1; omega)]
    cases sg1 x
    · exact Or.inl rfl
    · exact Or.inr rfl
  refine ⟨isoV_sg hV s1, hp, hpl _ _ (isoV_sg hV s2) hp, ?_, rfl⟩
  have l1 := okF_len h3.2.1
  have l2 := okF_len k1.1
  have := k4.1
  omega
end XS2
section XS3
variable {Ls : List (List Nat)} {Cs : List cdT} {os : List Nat} {A0 : rn_L} {sg0 : Nat → Bool} {c0 : Nat}
theorem k024_5 {kd : Nat} (h : k024 kd) : kd < 5 := by rcases h with h | h | h <;> omega
theorem row_code (h0 : okL A0 c0) (hne : A0 ≠ []) (hpl : plnA A0 sg0) (hg : genR Ls (tk sg0 A0)) (hc : genC Cs (clC sg0 A0)) (hcl : cloC Cs) : ∀ r, r ∈ Ls → ∃ C, C ∈ Cs ∧ crP C r := by
  have key : ∀ (n i : Nat) r, i ≤ n → Ls[i]? = some r → ∃ C, C ∈ Cs ∧ crP C r := by
    intro n
    induction n with
    | zero =>
      intro i r hi hr
      have e : i = 0 := by omega
      rw [e, hg.1] at hr
      cases hr
      exact ⟨_, List.mem_of_getElem? hc.1, A0, sg0, c0, h0, rfl, rfl, hne, hpl⟩
    | succ n ih =>
      intro i r hi hr
      rcases hg.2 i r hr with e | ⟨i', r', A, sg, c, kd, A', sg', q1, q2, q3, q4, q5, q6⟩
      · exact ih i r (by omega) hr
      · obtain ⟨C', hC', A2, sg2, c2, k1, k2, k3, k4, k5⟩ := ih i' r' (by omega) q2
        obtain ⟨A1, sg1, c1, R, m1, m2, m3⟩ := hcl C' hC' kd q4
        have q39 := q3
        rw [k3] at q3
        obtain ⟨hV, hp, hpn, ec, eA⟩ := same9 m2 (m1.symm.trans k2) k1 k5 q3
        subst eA
        have hk := k024_5 q4
        have mb := mb_all hV hp q39.2.2.2 hpn hk
        rw [ec] at q5
        obtain ⟨j, hj, hall⟩ := mb.2 A' sg' q5
        rcases m3 j hj with ⟨F, P, Q, d1, d2, d3⟩ | ⟨D, hD, hx⟩
        · have := (hall F P Q d1 d2).1
          rw [d3] at this
          cases this
        · obtain ⟨F, P, Q, Ds, qs, d1, d2, d3, d4, rfl⟩ := hD
          obtain ⟨-, f, hf⟩ := hall F P Q d1 d2
          exact ⟨_, hx, jn9 m2.2.2.1 hp hpn q39.2.2.2 k4 hk q5 hj d1 d2 d3 hf d4 q6⟩
  intro r hr
  obtain ⟨i, hi, e⟩ := List.getElem_of_mem hr
  exact key i i r (Nat.le_refl _) (by rw [List.getElem?_eq_getElem hi, e])
theorem code_row (h0 : okL A0 c0) (hne : A0 ≠ []) (hpl : plnA A0 sg0) (hg : genR Ls (tk sg0 A0)) (hc : genC Cs (clC sg0 A0)) (hcl : cloR Ls) : ∀ C, C ∈ Cs → ∃ r, r ∈ Ls ∧ crP C r := by
  have key : ∀ (n i : Nat) C, i ≤ n → Cs[i]? = some C → ∃ r, r ∈ Ls ∧ crP C r := by
    intro n
    induction n with
    | zero =>
      intro i C hi hC
      have e : i = 0 := by omega
      rw [e, hc.1] at hC
      cases hC
      exact ⟨_, List.mem_of_getElem? hg.1, A0, sg0, c0, h0, rfl, rfl, hne, hpl⟩
    | succ n ih =>
      intro i C hi hC
      rcases hc.2 i C hC with e | ⟨i', A1, sg1, c1, R, kd, j, q1, q2, q3, q4, q5, q6⟩
      · exact ih i C (by omega) hC
      · obtain ⟨r', hr', A2, sg2, c2, k1, k2, k3, k4, k5⟩ := ih i' _ (by omega) q2
        obtain ⟨A, sg, c, m1, m2⟩ := hcl r' hr' kd q4
        have m19 := m1
        rw [k3] at m1
        obtain ⟨hV, hp, hpn, ec, eA⟩ := same9 q3 k2 k1 k5 m1
        subst eA
        have hk := k024_5 q4
        have mb := mb_all hV hp m19.2.2.2 hpn hk
        obtain ⟨F, P, Q, Ds, qs, d1, d2, d3, d4, rfl⟩ := q6
        obtain ⟨A', sg', hO, hall⟩ := mb.1 j q5 ⟨F, P, Q, d1, d2, d3⟩
        obtain ⟨-, f, hf⟩ := hall F P Q d1 d2
        obtain ⟨r, r1, r2⟩ := m2 A' sg' (by rw [ec]; exact hO)
        exact ⟨r, r1, jn9 q3.2.2.1 hp hpn m19.2.2.2 k4 hk hO q5 d1 d2 d3 hf d4 r2⟩
  intro C hC
  obtain ⟨i, hi, e⟩ := List.getElem_of_mem hC
  exact key i i C (Nat.le_refl _) (by rw [List.getElem?_eq_getElem hi, e])
theorem rows_le : ∀ (L : List (List Nat)), L.Nodup → (∀ r, r ∈ L → ∃ C, C ∈ Cs ∧ crP C r) → L.length ≤ Cs.length := by
  have key : ∀ (L : List (List Nat)), L.Nodup → (∀ r, r ∈ L → ∃ C, C ∈ Cs ∧ crP C r) → ∃ Ds : List cdT, Ds.length = L.length ∧ Ds.Nodup ∧ ∀ D, D ∈ Ds → D ∈ Cs ∧ ∃ r, r ∈ L ∧ crP D r := by
    intro L
    induction L with
    | nil => exact fun _ _ => ⟨[], rfl, List.nodup_nil, fun D hD => absurd hD List.not_mem_nil⟩
    | cons r L ih =>
      intro hn hL
      obtain ⟨n1, n2⟩ := List.nodup_cons.mp hn
      obtain ⟨Ds, d1, d2, d3⟩ := ih n2 (fun s hs => hL s (List.mem_cons_of_mem _ hs))
      obtain ⟨C, c1, c2⟩ := hL r List.mem_cons_self
      refine ⟨C :: Ds, by rw [List.length_cons, List.length_cons, d1], List.nodup_cons.mpr ⟨fun h9 => ?_, d2⟩, fun D hD => ?_⟩
      · obtain ⟨-, s, s1, s2⟩ := d3 C h9
        rw [crR_r (crP_R c2) (crP_R s2)] at n1
        exact n1 s1
      · rcases List.mem_cons.mp hD with e | hD
        · rw [e]
          exact ⟨c1, r, List.mem_cons_self, c2⟩
        · obtain ⟨a1, s, s1, s2⟩ := d3 D hD
          exact ⟨a1, s, List.mem_cons_of_mem _ s1, s2⟩
  intro L hn hL
  obtain ⟨Ds, d1, d2, d3⟩ := key L hn hL
  have := nodup_le Ds Cs d2 (fun D hD => (d3 D hD).1)
  omega
theorem codes_le (hl : Cs.length = os.length) (ho : ∀ (j s : Nat), os[j]? = some s → s < Cs.length) (hs : sts Cs os) (h : ∀ C, C ∈ Cs → ∃ r, r ∈ Ls ∧ crP C r) : os.length ≤ Ls.length := by
  have key : ∀ n, n ≤ os.length → ∃ Rs : List (List Nat), Rs.length = n ∧ Rs.Nodup ∧ ∀ r, r ∈ Rs → r ∈ Ls ∧ ∃ k, k < n ∧ crP (atC Cs os k) r := by
    intro n
    induction n with
    | zero => exact fun _ => ⟨[], rfl, List.nodup_nil, fun D hD => absurd hD List.not_mem_nil⟩
    | succ n ih =>
      intro hn
      obtain ⟨Rs, d1, d2, d3⟩ := ih (by omega)
      obtain ⟨r, c1, c2⟩ := h _ (at_in hl ho (k := n) (by omega))
      refine ⟨r :: Rs, by rw [List.length_cons, d1], List.nodup_cons.mpr ⟨fun h9 => ?_, d2⟩, fun D hD => ?_⟩
      · obtain ⟨-, k, k1, k2⟩ := d3 r h9
        have e := crR_c (crP_R k2) (crP_R c2)
        have h7 := hs k n k1 (by omega)
        rw [e, cmpC_rf] at h7
        omega
      · rcases List.mem_cons.mp hD with e | hD
        · rw [e]
          exact ⟨c1, n, by omega, c2⟩
        · obtain ⟨a1, k, k1, k2⟩ := d3 D hD
          exact ⟨a1, k, by omega, k2⟩
  obtain ⟨Rs, d1, d2, d3⟩ := key _ (Nat.le_refl _)
  have := nodup_le Rs Ls d2 (fun r hr => (d3 r hr).1)
  omega
end XS3
section XS4
variable {vl : Nat → Nat} {y : ow_MS} {St : plT} {x : Int32}
def sc9 (y : ow_MS) (St : plT) (e : Nat) (C0 : cdT) (r : Nat × Int32 × ow_MS) : Prop := ∃ Cs os, Cs.length = os.length ∧ (∀ (j s : Nat), os[j]? = some s → s < Cs.length) ∧ sts Cs os ∧ 0 < os.length ∧ genC Cs C0 ∧ (os.length ≤ 300 → cloC Cs) ∧ (300 < os.length ∧ r.2.1 = -2 ∧ fr (coP 13000) y r.2.2 ∨ os.length ≤ 300 ∧ r.2.1 = nI e ∧ fr (fun g => cW 1000 g ∨ coP 13000 g) y r.2.2 ∧ ∀ B sgB, clC sgB B = atC Cs os 0 → relC r.2.2 (upP St e (some (B, sgB))))
theorem xc_simplify (hN : gM y) (hC : relC y St) (hS : okS St) : Te (fun K => ce_X11_simplify vl K 0 x y) (fun r => (r.1 = 1 ∧ r.2.2 = y ∧ ∀ d, d < 40 → x = nI d → St d = none) ∨ ∃ d A sg c, d < 40 ∧ x = nI d ∧ St d = some (A, sg) ∧ okL A c ∧ A ≠ [] ∧ plnA A sg ∧ (r.1 = 3 ∧ r.2.2 = y ∧ allF St ∨ ∃ e, lstF St e ∧ r.1 = 0 ∧ sc9 y St e (clC sg A) r)) := by
  refine e_X11_simplify ?_; unfold cm_X11_simplify_0
  refine w_tc0 (xc_need hN.1.1 hC hS) ?_ ?_
  · rintro y1 ⟨h1, rfl⟩
    rcases h1 with h1 | ⟨-, d, A, sg, c, hd, rfl, hSt, hs, hA, hne, hpl⟩
    · exact absurd (show (0 : Nat) = 1 from h1.1) (by decide)
    · refine w_tc1 (xc_free hN.1.1 hC hS) ?_ ?_
      · rintro v y2 ⟨h2, rfl⟩
        rcases h2 with h2 | ⟨-, e, rfl, hlf⟩
        · exact absurd (show (0 : Nat) = 3 from h2.1) (by decide)
        · refine w_cs0 (xc_reach hN hd hs hA) ?_
          rintro y3 ⟨g1, g2, Cs, os, g3, g4, g5, g6, g7⟩
          have hl := g3.2.2.2.1
          have hCl : Cs.length = os.length := g3.1.2.1
          refine w_rdF g3.1.1 (w_le (b := 300) (by omega) (by omega) (fun h300 => ?_) (fun h300 => w_some (Or.inr ⟨d, A, sg, c, hd, rfl, hSt, hA, hne, hpl, Or.inr ⟨e, hlf, rfl, Cs, os, hCl, tabC_os g3.1, g4, g5, g6, g7, Or.inl ⟨h300, rfl, g2⟩⟩⟩)))
          obtain ⟨s, s1, s2, s3, s4⟩ := tab_at g3.1 g5
          have hC3 : relC y3 St := relC_fr g2 (fun q hq h9 => by unfold cW at hq; unfold coP cV at h9; omega) hC
          refine w_crI (tH_4 tH13) nI_0.symm (show 0 < 301 by omega) s2 (w_cs0 (tc_write ch_1000 tH13 (by omega) hlf.1 (show s < 301 by omega) s3 s4 g3.2.2.2.2) ?_)
          rintro y4 ⟨w1, w2, w3, w4⟩
          refine w_some (Or.inr ⟨d, A, sg, c, hd, rfl, hSt, hA, hne, hpl, Or.inr ⟨e, hlf, rfl, Cs, os, hCl, tabC_os g3.1, g4, g5, g6, g7, Or.inr ⟨h300, rfl, fr_tr (fr_mono (fun g hg => Or.inr hg) g2) (fr_mono (fun g hg => Or.inl hg) w4), fun B sgB eB => ?_⟩⟩⟩)
          rw [← eB] at w1
          exact relC_put g1.1.1 hC3 hS w1 w2
      · rintro a v y2 ha ⟨h2, rfl⟩
        rcases h2 with h2 | h2
        · exact w_some (Or.inr ⟨d, A, sg, c, hd, rfl, hSt, hA, hne, hpl, Or.inl ⟨h2.1, rfl, h2.2⟩⟩)
        · exact absurd h2.1 ha
  · rintro a y1 ha ⟨h1, rfl⟩
    rcases h1 with h1 | h1
    · exact w_some (Or.inl ⟨h1.1, rfl, h1.2⟩)
    · exact absurd h1.1 ha
end XS4
section XS5
variable {X : (Nat → Nat → Int32) → Prop} {z y : ow_MS} {vl : Nat → Nat} {x : Int32}
theorem c_simplify (h : rel3 X z y) : Te (fun K => qe_X13_simplify K x z) (fun rr => Te (fun K => ce_X11_simplify vl K 0 x y) (fun rc => rel3 X rr.2 rc.2.2 ∧ ansI [(1, 1), (2, 3)] rr rc)) := by
  obtain ⟨⟨St, k⟩, hM, h2⟩ := id h
  refine te_two (xq_simplify k.1 k.2.2.1) (te_and (tc_simplify (x := x) hM) (xc_simplify hM k.2.2.2.1 k.2.2.2.2)) (fun rr rc hr ⟨⟨hG, _⟩, hc⟩ => ?_)
  have same : ∀ {j k9 : Nat}, rFl X z j rr → (j, k9) ∈ [(1, 1), (2, 3)] → rc.1 = k9 → rc.2.2 = y → rel3 X rr.2 rc.2.2 ∧ ansI [(1, 1), (2, 3)] rr rc := fun hf hm e1 e2 => both_3 h (bo_fail k hf hm e1 (by rw [e2]; exact k.2.1) (by rw [e2]; exact fr_rf) (by rw [e2]; exact k.2.2.2.1))
  rcases hr with ⟨r1, r2⟩ | ⟨d, A, sg, hd, rfl, hSt, hr⟩
  · rcases hc with ⟨c1, c2, -⟩ | ⟨d, A, sg, c, hd, hx, hSt, -⟩
    · exact same r1 (by simp) c1 c2
    · rw [r2 d hd hx] at hSt
      cases hSt
  · rcases hc with ⟨-, -, c2⟩ | ⟨d', A', sg', c, hd', hx, hSt', hA, hne, hpl, hc⟩
    · rw [c2 d hd rfl] at hSt
      cases hSt
    · have ed := nI_inj9 (a := d) (b := d') (by omega) (by omega) hx
      subst ed
      rw [hSt] at hSt'
      cases hSt'
      rcases hr with ⟨r1, r2⟩ | ⟨e, he, Ls, l1, l2, hr⟩
      · rcases hc with ⟨c1, c2, -⟩ | ⟨e, he, -⟩
        · exact same r1 (by simp) c1 c2
        · exact (all_lst r2 he).elim
      · rcases hc with ⟨-, -, c2⟩ | ⟨e', he', c1, Cs, os, m1, m2, m3, m4, m5, m6, hc⟩
        · exact (all_lst c2 he).elim
        · have ee := lst_uni2 he he'
          subst ee
          have cnt1 : os.length ≤ 300 → Ls.length ≤ os.length := fun h9 => by
            have := rows_le (Cs := Cs) Ls l1 (row_code hA hne hpl l2 m5 (m6 h9))
            omega
          have cnt2 : cloR Ls → os.length ≤ Ls.length := fun h9 => codes_le m1 m2 m3 (code_row hA hne hpl l2 m5 h9)
          rcases hr with ⟨n1, n2, n3, n4, n5⟩ | ⟨n1, n2, B, sgB, n3, n4, n5, n6⟩
          · rcases hc with ⟨o1, o2, o3⟩ | ⟨o1, -⟩
            · exact ⟨⟨⟨St, n3, hG.1, relR_fr n5 (by unfold fB3; omega) k.2.2.1, relC_fr o3 (fun q hq h9 => by unfold cW at hq; unfold coP cV at h9; omega) k.2.2.2.1, k.2.2.2.2⟩, hG, rel2_h n5 o3 (fun g hg h9 => by unfold fB3 at hg; unfold r2Z at h9; omega) (fun g hg h9 => by unfold coP cV at hg; unfold r2Y at h9; omega) h2⟩, Or.inl ⟨n4, c1, by rw [n2, o2]⟩⟩
            · have := cnt1 o1
              omega
          · rcases hc with ⟨o1, -⟩ | ⟨o1, o2, o3, o4⟩
            · have := cnt2 n2
              omega
            · obtain ⟨C, hC, hCr⟩ := row_code hA hne hpl l2 m5 (m6 o1) _ n3
              obtain ⟨i, hi, ei⟩ := at_sur m1 m2 m3 hC
              have hmin : crP (atC Cs os 0) (tk sgB B) := by
                by_cases e0 : i = 0
                · rw [e0] at ei
                  rw [ei]
                  exact hCr
                · exfalso
                  obtain ⟨r0, q1, q2⟩ := code_row hA hne hpl l2 m5 n2 _ (at_in m1 m2 m4)
                  have h7 := m3 0 i (by omega) hi
                  rw [ei] at h7
                  have h8 := (crR_lt (crP_R q2) (crP_R hCr)).mpr h7
                  rw [n4 r0 q1] at h8
                  cases h8
              obtain ⟨A9, sg9, c9, t1, t2, t3, t4, t5⟩ := hmin
              obtain ⟨u1, u2⟩ := tk_inj A9 B (okL_u t1) n5 t3.symm
              subst u1
              obtain ⟨v1, v2, v3, v4, v5⟩ := n6 t4
              have eC : clC sgB A9 = atC Cs os 0 := by
                rw [t2]
                exact (clC_tk t1 t1).mpr t3
              have hpB : plnA A9 sgB := fun f9 T9 hV hp9 => t5 f9 T9 (isoV_sg hV u2) hp9
              exact ⟨⟨⟨_, v2, hG.1, v5, o4 A9 sgB eC, okS_put k.2.2.2.2 ⟨t4, hpB, c9, t1⟩⟩, hG, rel2_h v4 o3 (fun g hg h9 => by unfold fB3 at hg; unfold r2Z at h9; omega) (fun g hg h9 => by unfold cW coP cV at hg; unfold r2Y at h9; omega) h2⟩, Or.inl ⟨v3, c1, by rw [v1, o2]⟩⟩
end XS5
end
section
/-! 99zzzzzzzzzzzs.xjon -/
/-! the reference: the numbers of J, exactly -/
def smJ (f : Nat → Int64) : Nat → Int64
  | 0 => 0
  | n + 1 => smJ f n + f n
def jW (l : Nat) : Nat → Int64
  | 0 => if ((nI l - 1) &&& 1) = 0 then 1 else -1
  | t + 1 => (jW l t * ((nI l - 1 - nI t).toInt64)) / ((nI t + 1).toInt64)
def jP (c : Nat) (w : Int) (l t ze : Nat) : Nat := (2 * ((l : Int) - 1) - 4 * t + ze - (c - ze) - 3 * w + 100).toNat
def jQ (c : Nat) (w : Int) (T : Nat → Int64) (k l t ze : Nat) : Int64 := if jP c w l t ze = k then (if (iI w &&& 1) = 0 then T (24 * ze + l) * jW l t else 0 - T (24 * ze + l) * jW l t) else 0
def jZ (c : Nat) (w : Int) (T : Nat → Int64) (k l t n : Nat) : Int64 := smJ (jQ c w T k l t) n
def jY (c : Nat) (w : Int) (T : Nat → Int64) (k l n : Nat) : Int64 := smJ (fun t => jZ c w T k l t (c + 1)) n
def jX (c : Nat) (w : Int) (T : Nat → Int64) (k n : Nat) : Int64 := smJ (fun l => jY c w T k (l + 1) (l + 1)) n
/-- where a state is counted -/
def jI (A : rn_L) (sg : Nat → Bool) (c s : Nat) : Nat := 24 * (c - pc s) + rtsN (lpA A sg (nI s) A.flatten.length) A.flatten.length + eC A
def jN (A : rn_L) (sg : Nat → Bool) (c n k : Nat) : Int64 := Int64.ofNat (((List.range n).map (jI A sg c)).count k)
theorem jN_s {A : rn_L} {sg : Nat → Bool} {c n k : Nat} : jN A sg c (n + 1) k = if k = jI A sg c n then jN A sg c n k + 1 else jN A sg c n k := by
  unfold jN
  rw [List.range_succ, List.map_append, List.count_append]
  by_cases e : k = jI A sg c n
  · rw [if_pos e]
    have : List.count k [jI A sg c n] = 1 := by rw [e]; exact List.count_singleton_self
    show Int64.ofNat (_ + List.count k [jI A sg c n]) = _
    rw [this, Int64.ofNat_add]
    rfl
  · rw [if_neg e]
    have : List.count k [jI A sg c n] = 0 := List.count_eq_zero.mpr (fun h => e (List.mem_singleton.mp h))
    show Int64.ofNat (_ + List.count k [jI A sg c n]) = _
    rw [this, Nat.add_zero]
theorem jn_ip {l t ze c : Nat} {w : Int} (hl : l ≤ 23) (hl1 : 1 ≤ l) (ht : t < l) (hz : ze ≤ c) (hc : c ≤ 12) (h1 : -12 ≤ w) (h2 : w ≤ 12) : jP c w l t ze < 201 ∧ ((((2 * (nI l - 1)) - (4 * nI t)) + nI ze) - (nI c - nI ze) - (3 * iI w)) + 100 = nI (jP c w l t ze) := by
  unfold jP
  refine ⟨by omega, ?_⟩
  rw [nI_iI l, nI_iI t, nI_iI ze, nI_iI c]
  show (((iI 2 * (iI l - iI 1)) - (iI 4 * iI t)) + iI ze) - (iI c - iI ze) - (iI 3 * iI w) + iI 100 = _
  rw [iI_sub, iI_mul, iI_mul, iI_sub, iI_add, iI_sub, iI_sub, iI_mul, iI_sub, iI_add]
  exact iI_nI (by omega)
section XJN
variable {z : ow_MS}
theorem xm_makeJones {n : Nat} {A : rn_L} {sg : Nat → Bool} (hn : mw_net n) (hA : oNet z n A sg) {c : Nat} (hok : okF A.flatten c) (hc : c ≤ 12) : Te (fun K => qe_X13_makeJones K n z) (fun z1 => fr (fun g => g = 47 ∨ g = 48 ∨ g = 51) z z1 ∧ ∀ k, k < 201 → z1.2.2 48 k = jX c (wrN A sg A.flatten.length) (jN A sg c (2 ^ c)) k 23) := by
  have hV := okF_len hok
  have hC := hA.2.2.2
  have hmn := net_mod hn
  have hov := ovs_le hok
  have hw := wrN_le (A := A) (sg := sg) A.flatten.length
  have hne := neC_eC A
  generalize hwn : wrN A sg A.flatten.length = w at hw
  have hw1 : -12 ≤ w := by omega
  have hw2 : w ≤ 12 := by omega
  obtain ⟨T, hT⟩ : ∃ T, T = jN A sg c (2 ^ c) := ⟨_, rfl⟩
  let Q : ow_MS → Prop := fun z1 => fr (fun g => g = 47 ∨ g = 48 ∨ g = 51) z z1 ∧ ∀ k, k < 201 → z1.2.2 48 k = jX c w T k 23
  have oA : ∀ {y : ow_MS}, fr (fun g => g = 47 ∨ g = 48 ∨ g = 51) z y → oNet y n A sg := fun hf => oNet_fr hf (fun g hg => by omega) hA
  have c4 : ∀ (d l : Nat) (y : ow_MS), l + d = 24 → 1 ≤ l → fr (fun g => g = 47 ∨ g = 48 ∨ g = 51) z y → (∀ k, k < 312 → y.2.2 51 k = T k) → (∀ k, k < 201 → y.2.2 48 k = jX c w T k (l - 1)) → Tt (fun K i => q_X13_makeJones K i 4 (nI c) (nI (eC A)) (iI w) (nI l) 0 0 0 0 0 0 0 n 0 0 0 y) Q := by
    intro d
    induction d with
    | zero =>
      intro l y hl hl1 hf h51 h48
      have e : l = 24 := by omega
      rw [e] at h48
      refine u_X13_makeJones_4 ?_; unfold qm_X13_makeJones_4
      exact w_leT (a := 24) (by omega) (by omega) (w_some ⟨hf, h48⟩)
    | succ d ih =>
      intro l y hl hl1 hf h51 h48
      obtain ⟨l1, rfl⟩ : ∃ l1, l = l1 + 1 := ⟨l - 1, by omega⟩
      rw [Nat.add_sub_cancel] at h48
      obtain ⟨l, hll⟩ : ∃ l, l = l1 + 1 := ⟨_, rfl⟩
      rw [← hll] at hl hl1 ⊢
      have c6 : ∀ (d2 t : Nat) (w6 w8 : Int64) (y : ow_MS), t + d2 = l → w8 = jW l t → fr (fun g => g = 47 ∨ g = 48 ∨ g = 51) z y → (∀ k, k < 312 → y.2.2 51 k = T k) → (∀ k, k < 201 → y.2.2 48 k = jX c w T k l1 + jY c w T k l t) → Tt (fun K i => q_X13_makeJones K i 6 (nI c) (nI (eC A)) (iI w) (nI l) (nI t) 0 0 0 w6 w8 0 n 0 0 0 y) Q := by
        intro d2
        induction d2 with
        | zero =>
          intro t w6 w8 y ht hw8 hf h51 h48
          have e : t = l1 + 1 := by omega
          refine u_X13_makeJones_6 ?_; unfold qm_X13_makeJones_6
          rw [nI_1]
          refine w_leT (by omega) (by omega) (ih (l + 1) y (by omega) (by omega) hf h51 (fun k hk => ?_))
          rw [h48 k hk, e, Nat.add_sub_cancel, hll]
          rfl
        | succ d2 ih2 =>
          intro t w6 w8 y ht hw8 hf h51 h48
          have c7 : ∀ (d3 ze : Nat) (y : ow_MS), ze + d3 = c + 1 → fr (fun g => g = 47 ∨ g = 48 ∨ g = 51) z y → (∀ k, k < 312 → y.2.2 51 k = T k) → (∀ k, k < 201 → y.2.2 48 k = jX c w T k l1 + jY c w T k l t + jZ c w T k l t ze) → Tt (fun K i => q_X13_makeJones K i 7 (nI c) (nI (eC A)) (iI w) (nI l) (nI t) ((2 * (nI l - 1)) - (4 * nI t)) (nI ze) 0 w6 w8 0 n 0 0 0 y) Q := by
            intro d3
            induction d3 with
            | zero =>
              intro ze y hz hf h51 h48
              have hnz : (nI (t + 1)).toInt64 ≠ 0 := by
                rw [nI_l (by omega)]
                exact fun e => by
                  have := (pk_lEQ (a := t + 1) (b := 0) (by omega) (by omega)).mp e
                  omega
              refine u_X13_makeJones_7 ?_; unfold qm_X13_makeJones_7
              rw [show nI t + 1 = nI (t + 1) from nI_1 _]
              refine w_ltT (by omega) (by omega) (w_nzJ hnz (ih2 (t + 1) _ _ y (by omega) ?_ hf h51 (fun k hk => ?_)))
              · rw [hw8, ← nI_1 t]
                rfl
              · have e : ze = c + 1 := by omega
                rw [h48 k hk, e, Int64.add_assoc]
                rfl
            | succ d3 ih3 =>
              intro ze y hz hf h51 h48
              obtain ⟨hk, ek⟩ := jn_ip (l := l) (t := t) (ze := ze) (c := c) (w := w) (by omega) hl1 (by omega) (by omega) hc hw1 hw2
              obtain ⟨k, hkk⟩ : ∃ k, k = jP c w l t ze := ⟨_, rfl⟩
              rw [← hkk] at hk ek
              have c9 : ∀ (x13 : Int32) (w14 : Int64) (y : ow_MS), fr (fun g => g = 47 ∨ g = 48 ∨ g = 51) z y → (∀ k, k < 312 → y.2.2 51 k = T k) → (∀ k, k < 201 → y.2.2 48 k = jX c w T k l1 + jY c w T k l t + (jZ c w T k l t ze + jQ c w T k l t ze)) → Tt (fun K i => q_X13_makeJones K i 9 (nI c) (nI (eC A)) (iI w) (nI l) (nI t) ((2 * (nI l - 1)) - (4 * nI t)) (nI ze) x13 w6 w8 w14 n 0 0 0 y) Q := by
                intro x13 w14 y hf h51 h48
                refine u_X13_makeJones_9 ?_; unfold qm_X13_makeJones_9
                rw [show nI ze + 1 = nI (ze + 1) from nI_1 _]
                exact ih3 (ze + 1) y (by omega) hf h51 h48
              have c8 : ∀ (x13 : Int32) (w14 y0 : Int64), (if (iI w &&& 1) = 0 then T (24 * ze + l) * jW l t else 0 - T (24 * ze + l) * jW l t) = y0 → Tt (fun K i => q_X13_makeJones K i 8 (nI c) (nI (eC A)) (iI w) (nI l) (nI t) ((2 * (nI l - 1)) - (4 * nI t)) (nI ze) x13 w6 w8 w14 n (nI k) y0 (y.2.2 48 k) y) Q := by
                intro x13 w14 y0 hy0
                refine u_X13_makeJones_8 ?_; unfold qm_X13_makeJones_8
                refine w_wrJ ml48 rfl hk (c9 _ _ _ (fr_J2 hf (Or.inr (Or.inl rfl))) (fun k' hk' => h51 k' hk') (fun k' hk' => ?_))
                by_cases e : k' = k
                · rw [e, usJ_at, h48 k hk, Int64.add_assoc]
                  unfold jQ
                  rw [if_pos hkk.symm, hy0]
                · rw [usJ_ne e, h48 k' hk']
                  unfold jQ
                  rw [if_neg (fun h9 => e (by rw [hkk, h9])), Int64.add_zero]
              refine u_X13_makeJones_7 ?_; unfold qm_X13_makeJones_7
              rw [ek]
              refine w_ltF (by omega) (by omega) (w_rdJ (i := 24 * ze + l) ml51 (by rw [show (24 : Int32) * nI ze = nI (24 * ze) from pk_mul 24 ze, nI_add]) (by omega) (h51 _ (by omega)) (w_if (fun h0 => c9 _ _ _ hf h51 (fun k' hk' => ?_)) (fun _ => w_rdJ ml48 rfl hk rfl (w_if (fun hw0 => c8 _ _ _ (by rw [if_pos hw0, hw8])) (fun hw0 => c8 _ _ _ (by rw [if_neg hw0, hw8]))))))
              have e0 : T (24 * ze + l) = 0 := (lg_cmp_eq _ _).mp h0
              rw [h48 k' hk']
              unfold jQ
              rw [e0, Int64.zero_mul, Int64.sub_self, ite_self, ite_self, Int64.add_zero]
          refine u_X13_makeJones_6 ?_; unfold qm_X13_makeJones_6
          refine w_leF (by omega) (by omega) (c7 (c + 1) 0 y (by omega) hf h51 (fun k hk => ?_))
          rw [h48 k hk]
          exact (Int64.add_zero _).symm
      have c5 : ∀ (y0 : Int64), y0 = jW l 0 → Tt (fun K i => q_X13_makeJones K i 5 (nI c) (nI (eC A)) (iI w) (nI l) 0 0 0 0 0 0 0 n 0 y0 0 y) Q := by
        intro y0 hy0
        refine u_X13_makeJones_5 ?_; unfold qm_X13_makeJones_5
        refine c6 l 0 _ _ y (by omega) hy0 hf h51 (fun k hk => ?_)
        rw [h48 k hk]
        exact (Int64.add_zero _).symm
      refine u_X13_makeJones_4 ?_; unfold qm_X13_makeJones_4
      exact w_leF (a := 24) (by omega) (by omega) (w_if (fun h9 => c5 _ (if_pos h9).symm) (fun h9 => c5 _ (if_neg h9).symm))
  have c3 : ∀ (d k : Nat) (y : ow_MS), k + d = 201 → fr (fun g => g = 47 ∨ g = 48 ∨ g = 51) z y → (∀ k, k < 312 → y.2.2 51 k = T k) → (∀ i, i < k → y.2.2 48 i = 0) → Tt (fun K i => q_X13_makeJones K i 3 (nI c) (nI (eC A)) (nI k) 0 0 0 0 0 0 0 0 n 0 0 0 y) Q := by
    intro d
    induction d with
    | zero =>
      intro k y hk hf h51 h48
      refine u_X13_makeJones_3 ?_; unfold qm_X13_makeJones_3
      refine w_ltT (a := 200) (by omega) (by omega) (w_cs1 (tp_writhe2 hn (oA hf)) (fun a y1 e => ?_))
      cases e
      rw [hwn]
      exact c4 23 1 y (by omega) (by omega) hf h51 (fun i hi => h48 i (by omega))
    | succ d ih =>
      intro k y hk hf h51 h48
      refine u_X13_makeJones_3 ?_; unfold qm_X13_makeJones_3
      rw [nI_1]
      refine w_ltF (a := 200) (by omega) (by omega) (w_wrJ ml48 rfl (by omega) (ih (k + 1) _ (by omega) (fr_J2 hf (Or.inr (Or.inl rfl))) (fun i hi => h51 i hi) (fun i hi => ?_)))
      by_cases e : i = k
      · rw [e, usJ_at]
      · rw [usJ_ne e]
        exact h48 i (by omega)
  have h2c : 2 ^ c ≤ 4096 := two_mono (b := 12) hc
  have c2 : ∀ (d s : Nat) (y : ow_MS), s + d = 2 ^ c → fr (fun g => g = 47 ∨ g = 48 ∨ g = 51) z y → (∀ k, k < 312 → y.2.2 51 k = jN A sg c s k) → Tt (fun K i => q_X13_makeJones K i 2 (nI c) (nI (eC A)) (nI s) 0 0 0 0 0 0 0 0 n 0 0 0 y) Q := by
    intro d
    induction d with
    | zero =>
      intro s y hs hf h51
      have e : s = 2 ^ c := by omega
      rw [e, ← hT] at h51
      refine u_X13_makeJones_2 ?_; unfold qm_X13_makeJones_2
      rw [shl1 (by omega)]
      exact w_leT (by omega) (by omega) (c3 201 0 y (by omega) hf h51 (fun i hi => absurd hi (Nat.not_lt_zero _)))
    | succ d ih =>
      intro s y hs hf h51
      have hpc := pc_le (c := c) (k := s) (by omega)
      refine u_X13_makeJones_2 ?_; unfold qm_X13_makeJones_2
      rw [shl1 (by omega)]
      refine w_leF (by omega) (by omega) (w_cs0 (tp_loops (st := nI s) hn (oA hf)) (fun y1 ⟨u1, f1⟩ => ?_))
      have hf1 : fr (fun g => g = 47 ∨ g = 48 ∨ g = 51) z y1 := fr_tr hf (fr_mono (fun g hg => Or.inl hg) f1)
      have hlp := loops_le (sg := sg) (st := nI s) hok (by omega)
      refine w_cs1 (tp_countL (oA hf1).1.V (by omega) u1) (fun a y2 e => ?_)
      cases e
      obtain ⟨r, hr9⟩ : ∃ r, r = rtsN (lpA A sg (nI s) A.flatten.length) A.flatten.length := ⟨_, rfl⟩
      rw [← hr9] at hlp ⊢
      have ei : ((24 : Int32) * (nI c - ow_bc (nI s))) + nI r + nI (eC A) = nI (24 * (c - pc s) + r + eC A) := by
        rw [bc_pc (by omega), pk_sub hpc, show (24 : Int32) * nI (c - pc s) = nI (24 * (c - pc s)) from pk_mul 24 _, nI_add, nI_add]
      rw [ei, nI_1]
      have eI : jI A sg c s = 24 * (c - pc s) + r + eC A := by
        unfold jI
        rw [hr9]
      rw [← eI]
      have hI : jI A sg c s < 312 := by rw [eI]; omega
      have h51' : ∀ k, k < 312 → y1.2.2 51 k = jN A sg c s k := fun k hk => by
        rw [(f1 51 (by omega)).2.2]
        exact h51 k hk
      refine w_rdJ ml51 rfl (by omega) (h51' _ hI) (w_wrJ ml51 rfl (by omega) (ih (s + 1) _ (by omega) (fr_J2 hf1 (Or.inr (Or.inr rfl))) (fun k hk => ?_)))
      rw [jN_s]
      by_cases e : k = jI A sg c s
      · rw [if_pos e, e, usJ_at]
      · rw [if_neg e, usJ_ne e]
        exact h51' k hk
  have c1 : ∀ (d k : Nat) (y : ow_MS), k + d = 312 → fr (fun g => g = 47 ∨ g = 48 ∨ g = 51) z y → (∀ i, i < k → y.2.2 51 i = 0) → Tt (fun K i => q_X13_makeJones K i 1 (nI c) (nI (eC A)) (nI k) 0 0 0 0 0 0 0 0 n 0 0 0 y) Q := by
    intro d
    induction d with
    | zero =>
      intro k y hk hf h51
      refine u_X13_makeJones_1 ?_; unfold qm_X13_makeJones_1
      refine w_leT (a := 312) (by omega) (by omega) (c2 (2 ^ c) 0 y (by omega) hf (fun i hi => ?_))
      rw [h51 i (by omega)]
      rfl
    | succ d ih =>
      intro k y hk hf h51
      refine u_X13_makeJones_1 ?_; unfold qm_X13_makeJones_1
      rw [nI_1]
      refine w_leF (a := 312) (by omega) (by omega) (w_wrJ ml51 rfl (by omega) (ih (k + 1) _ (by omega) (fr_J2 hf (Or.inr (Or.inr rfl))) (fun i hi => ?_)))
      by_cases e : i = k
      · rw [e, usJ_at]
      · rw [usJ_ne e]
        exact h51 i (by omega)
  refine e_X13_makeJones ?_
  refine u_X13_makeJones_0 ?_; unfold qm_X13_makeJones_0
  refine w_rdF hA.1.V (w_nzI (by decide) (w_cs1 (tp_circles2 hn (by omega) (by omega) hA.1.1) (fun a y e => ?_)))
  cases e
  rw [hV, show nI (2 * c) / 2 = nI c from by rw [show nI (2 * c) / 2 = nI (2 * c / 2) from pk_div (d := 2) (by omega) (by omega) (by omega)]; congr 1; omega]
  have fin := c1 312 0 z (by omega) fr_rf (fun i hi => absurd hi (Nat.not_lt_zero _))
  refine w_mono fin (fun r hr => ⟨hr.1, fun k hk => ?_⟩)
  rw [hr.2 k hk, hT]
end XJN
end
section
/-! 99zzzzzzzzzzzt.xjon2 -/
/-! the states in the order of their numbers -/
def bxS (b : Nat → Bool) (x s k : Nat) : Bool := if k < x then b k else decide (s / 2 ^ (k - x) % 2 = 1)
def tbF (S : ow_NP) (G : Nat → Int32) (ci n : Nat) (b : Nat → Bool) : Nat := 24 * onC b n + (ci + rtsN (uPx S G b n) (2 * n))
theorem ev_od (F : Nat → Nat) : ∀ n, ((List.range (2 * n)).map F).Perm ((List.range n).map (fun s => F (2 * s)) ++ (List.range n).map (fun s => F (2 * s + 1)))
  | 0 => List.Perm.refl _
  | n + 1 => by
    have ih := ev_od F n
    refine List.perm_iff_count.mpr (fun a => ?_)
    have h := List.perm_iff_count.mp ih a
    rw [show 2 * (n + 1) = 2 * n + 1 + 1 by omega, List.range_succ, List.range_succ, List.range_succ (n := n)]
    simp only [List.map_append, List.count_append, List.map_cons, List.map_nil] at h ⊢
    omega
theorem tbF_c {S : ow_NP} {G : Nat → Int32} {ci n : Nat} {b b' : Nat → Bool} (h : ∀ k, k < n → b k = b' k) : tbF S G ci n b = tbF S G ci n b' := by
  obtain ⟨h1, h2⟩ := uPx_c (S := S) (G := G) n h
  unfold tbF
  rw [h1, h2]
theorem tbL_pm {S : ow_NP} {G : Nat → Int32} {ci : Nat} : ∀ (d x : Nat) (b : Nat → Bool), (tbL S G ci d x b).Perm ((List.range (2 ^ d)).map (fun s => tbF S G ci (x + d) (bxS b x s)))
  | 0, x, b => by
    have e : tbF S G ci x b = tbF S G ci (x + 0) (bxS b x 0) := tbF_c (n := x) (fun k hk => by unfold bxS; rw [if_pos hk])
    show [tbF S G ci x b].Perm [tbF S G ci (x + 0) (bxS b x 0)]
    rw [e]
  | d + 1, x, b => by
    have h0 := tbL_pm (S := S) (G := G) (ci := ci) d (x + 1) (seB b x false)
    have h1 := tbL_pm (S := S) (G := G) (ci := ci) d (x + 1) (seB b x true)
    have key : ∀ (v : Bool) (s : Nat), (fun s => tbF S G ci (x + 1 + d) (bxS (seB b x v) (x + 1) s)) s = tbF S G ci (x + (d + 1)) (bxS b x (2 * s + if v then 1 else 0)) := by
      intro v s
      show tbF S G ci (x + 1 + d) _ = _
      rw [show x + 1 + d = x + (d + 1) by omega]
      refine tbF_c (fun k hk => ?_)
      unfold bxS seB
      by_cases e1 : k < x
      · rw [if_pos (show k < x + 1 by omega), if_pos e1, if_neg (show ¬ k = x by omega)]
      · rw [if_neg e1]
        by_cases e2 : k = x
        · rw [if_pos (show k < x + 1 by omega), if_pos e2, e2, Nat.sub_self]
          cases v
          · show false = decide ((2 * s + 0) / 1 % 2 = 1)
            rw [decide_eq_false (by omega)]
          · show true = decide ((2 * s + 1) / 1 % 2 = 1)
            rw [decide_eq_true (by omega)]
        · rw [if_neg (show ¬ k < x + 1 by omega)]
          have e3 : k - x = k - (x + 1) + 1 := by omega
          rw [e3, Nat.pow_succ, Nat.mul_comm (2 ^ (k - (x + 1))) 2, ← Nat.div_div_eq_div_mul]
          have e4 : (2 * s + if v = true then 1 else 0) / 2 = s := by
            cases v
            · show (2 * s + 0) / 2 = s
              omega
            · show (2 * s + 1) / 2 = s
              omega
          rw [e4]
    have e0 : (List.range (2 ^ d)).map (fun s => tbF S G ci (x + 1 + d) (bxS (seB b x false) (x + 1) s)) = (List.range (2 ^ d)).map (fun s => tbF S G ci (x + (d + 1)) (bxS b x (2 * s))) := List.map_congr_left (fun s _ => key false s)
    have e1 : (List.range (2 ^ d)).map (fun s => tbF S G ci (x + 1 + d) (bxS (seB b x true) (x + 1) s)) = (List.range (2 ^ d)).map (fun s => tbF S G ci (x + (d + 1)) (bxS b x (2 * s + 1))) := List.map_congr_left (fun s _ => key true s)
    rw [e0] at h0
    rw [e1] at h1
    have hp : 2 ^ (d + 1) = 2 * 2 ^ d := by rw [Nat.pow_succ]; omega
    rw [hp]
    exact (List.Perm.append h0 h1).trans (ev_od (fun s => tbF S G ci (x + (d + 1)) (bxS b x s)) (2 ^ d)).symm
end
section
/-! 99zzzzzzzzzzzu.xjon3 -/
/-! both sides count the same states -/
theorem onC_pcF {b : Nat → Bool} {s : Nat} : ∀ n m, pcF (n + m) s = onC (bxS b 0 s) n + pcF m (s / 2 ^ n)
  | 0, m => by
    rw [Nat.zero_add, Nat.pow_zero, Nat.div_one]
    exact (Nat.zero_add _).symm
  | n + 1, m => by
    rw [show n + 1 + m = n + (m + 1) by omega, onC_pcF n (m + 1)]
    show onC (bxS b 0 s) n + (s / 2 ^ n % 2 + pcF m (s / 2 ^ n / 2)) = onC (bxS b 0 s) n + (if bxS b 0 s n = true then 1 else 0) + pcF m (s / 2 ^ (n + 1))
    have e2 : s / 2 ^ n / 2 = s / 2 ^ (n + 1) := by rw [Nat.div_div_eq_div_mul, Nat.pow_succ]
    rw [e2]
    have e : s / 2 ^ n % 2 = if bxS b 0 s n = true then 1 else 0 := by
      unfold bxS
      rw [if_neg (Nat.not_lt_zero _), Nat.sub_zero]
      by_cases h : s / 2 ^ n % 2 = 1
      · rw [if_pos (decide_eq_true h), h]
      · rw [if_neg (fun h9 => h (of_decide_eq_true h9))]
        omega
    rw [e]
    omega
theorem pcF_0 : ∀ m, pcF m 0 = 0
  | 0 => rfl
  | m + 1 => by
    show 0 % 2 + pcF m (0 / 2) = 0
    rw [Nat.zero_div, pcF_0 m]
theorem onC_pc {b : Nat → Bool} {s c : Nat} (hs : s < 2 ^ c) (hc : c ≤ 32) : onC (bxS b 0 s) c = pc s := by
  have h := onC_pcF (b := b) (s := s) c (32 - c)
  rw [show c + (32 - c) = 32 by omega, Nat.div_eq_of_lt hs, pcF_0, Nat.add_zero] at h
  exact h.symm
theorem tb_jI {A : rn_L} {sg : Nat → Bool} {c s : Nat} {S : ow_NP} {G : Nat → Int32} {b : Nat → Bool} (hj : jnN A sg c S G) (hs : s < 2 ^ c) : ∃ L, L < 24 ∧ pc s ≤ c ∧ tbF S G (cirs A) c (bxS b 0 s) = 24 * pc s + L ∧ jI A sg c s = 24 * (c - pc s) + L := by
  obtain ⟨h1, h2, h3, h4⟩ := hj
  have hc : c ≤ 12 := h1.2.2.2.1
  have h2c : 2 ^ c ≤ 4096 := two_mono (b := 12) hc
  have hal : ∀ v, v < A.flatten.length → uns A v = 0 → alS sg (nI s) (crs A v) = alB G (bxS b 0 s) (crs A v) := by
    intro v hv hu
    have hx : crs A v < c := ((h1.1.2 _).mp (vAt_mem hv)).1
    unfold alS alB sgP bxS
    rw [gbit (show s < 2 ^ 24 by omega) (by omega), if_neg (Nat.not_lt_zero _), Nat.sub_zero, h4 _ hx]
    rcases (show s / 2 ^ crs A v % 2 = 0 ∨ s / 2 ^ crs A v % 2 = 1 by omega) with e | e <;> rw [e] <;> cases sg (crs A v) <;> decide
  have hl := loops_eq (st := nI s) (b := bxS b 0 s) h2 h3 hal
  have hle := loops_le (sg := sg) (st := nI s) h1.1 (by omega)
  have hne := neC_eC A
  have h6 := h1.2.2.2.2
  have hce := cirs_eC A
  refine ⟨cirs A + rtsN (lpA A sg (nI s) A.flatten.length) A.flatten.length, by omega, pc_le hs, ?_, ?_⟩
  · unfold tbF
    rw [onC_pc hs (by omega), hl]
  · unfold jI
    omega
theorem ct_map {f g : Nat → Nat} {a b : Nat} : ∀ L : List Nat, (∀ s, s ∈ L → (f s = a ↔ g s = b)) → (L.map f).count a = (L.map g).count b
  | [], _ => rfl
  | s :: L, h => by
    have ih := ct_map L (fun t ht => h t (List.mem_cons_of_mem _ ht))
    have hs := h s List.mem_cons_self
    rw [List.map_cons, List.map_cons, List.count_cons, List.count_cons, ih]
    by_cases e : f s = a
    · rw [if_pos (by simpa using e), if_pos (by simpa using hs.mp e)]
    · rw [if_neg (by simpa using e), if_neg (by simpa using fun h9 => e (hs.mpr h9))]
/-- the class's row of states with o ones is the reference's row with c - o noughts -/
theorem tb_jN {A : rn_L} {sg : Nat → Bool} {c o l : Nat} {S : ow_NP} {G : Nat → Int32} (hj : jnN A sg c S G) (ho : o ≤ c) (hl : l < 24) : jN A sg c (2 ^ c) (24 * (c - o) + l) = Int64.ofNat ((tbL S G (cirs A) c 0 (fun _ => false)).count (24 * o + l)) := by
  unfold jN
  congr 1
  rw [(tbL_pm (S := S) (G := G) (ci := cirs A) c 0 (fun _ => false)).count_eq]
  refine (ct_map (List.range (2 ^ c)) (fun s hs => ?_)).symm
  obtain ⟨L, h1, h2, h3, h4⟩ := tb_jI (b := fun _ => false) hj (List.mem_range.mp hs)
  rw [Nat.zero_add, h3, h4]
  omega
end
