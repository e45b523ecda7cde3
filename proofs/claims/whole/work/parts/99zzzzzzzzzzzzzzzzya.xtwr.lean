/-! two: what conway leaves of two's rows; the class's two, exactly -/
section XTWR1
variable {X : (Nat → Nat → Int32) → Prop} {z : ow_MS} {St : plT}
theorem xq_conT {d x : Int32} (h : gI X z) (hR : relR z St) (hS : okS St) (hJ : twR z) : Te (fun K => qe_X13_conway K d x z) (fun r => twR r.2) := by
  let Q : Int32 × ow_MS → Prop := fun r => twR r.2
  have h1 := gI_1 (c := 0) h
  have hR1 := relR_1 (c := 0) hR
  have f01 : fr rPs z (usF z 1 0) := fr_1
  refine e_X13_conway ?_
  refine u_X13_conway_0 ?_; unfold qm_X13_conway_0
  refine w_wrF (w_hasX hR1 (fun h0 => w_ifT rfl (w_mono (w_failX h1 fr_1) (fun r hr => twR_fr hr.2.2 (by unfold rPs rSc; omega) (by unfold rPs rSc; omega) hJ))) (fun e A sg he hx hs hv hne => w_ifF (by decide) ?_))
  subst hx
  have c4 : ∀ {x1 : Int32} {y : ow_MS}, twR y → Tt (fun K i => q_X13_conway K i 4 x1 x 0 y) Q := by
    intro x1 y g4
    refine u_X13_conway_4 ?_; unfold qm_X13_conway_4
    exact w_some g4
  have c3 : ∀ {x1 : Int32} {y : ow_MS}, twR y → Tt (fun K i => q_X13_conway K i 3 x1 x 0 y) Q := by
    intro x1 y g4
    refine u_X13_conway_3 ?_; unfold qm_X13_conway_3
    refine w_if (fun h0 => c4 g4) (fun h0 => ?_)
    obtain ⟨k, k31, rfl⟩ := nI_of h0
    exact w_lt (b := 40) k31 (by omega) (fun hk => w_rdJ ml42 rfl hk rfl (w_some g4)) (fun hk => c4 g4)
  obtain ⟨⟨T1, k1⟩, kC⟩ := h1.2.2.2.2.1
  have hTl := hv.1.1
  obtain ⟨-, -, c, hA⟩ := hS e A sg he hs
  have hJ1 : twR (usF z 1 0) := twR_fr f01 (by unfold rPs rSc; omega) (by unfold rPs rSc; omega) hJ
  rw [show (32 : Int32) * nI e = nI (32 * e) from pk_mul 32 e]
  refine w_cs1 (tr_same (o := 32 * e) (p := 0) ml12 ml43 (by omega) (by omega) (by omega) (by omega) hv.1 k1) (fun a y e9 => ?_)
  cases e9
  refine w_if (fun _ => ?_) (fun h8 => c3 hJ1)
  have lp2 : ∀ (dd i : Nat) (y : ow_MS), i + dd = 32 → twR y → Tt (fun K t => q_X13_conway K t 2 (nI e) x (nI i) y) Q := by
    intro dd
    induction dd with
    | zero =>
      intro i y hi g4
      refine u_X13_conway_2 ?_; unfold qm_X13_conway_2
      exact w_leT (a := 32) (by omega) (by omega) (c3 g4)
    | succ dd ih =>
      intro i y hi g4
      refine u_X13_conway_2 ?_; unfold qm_X13_conway_2
      rw [show (32 : Int32) * nI e = nI (32 * e) from pk_mul 32 e, nI_add, nI_1]
      exact w_leF (a := 32) (by omega) (by omega) (w_rdI ml12 rfl (by omega) rfl (w_wrI ml43 rfl (by omega) (ih (i + 1) _ (by omega) (twR_fr (P := fun g => g = 43) (fr_I rfl) (by decide) (by decide) g4))))
  have lp1 : ∀ (dd i : Nat) (y : ow_MS), i + dd = 40 → fr (fun g => g = 42) (usF z 1 0) y → Tt (fun K t => q_X13_conway K t 1 (nI e) x (nI i) y) Q := by
    intro dd
    induction dd with
    | zero =>
      intro i y hi hf
      have hv9 : vRow y 12 (32 * e) A sg := vRow_fr9 hf (by decide) hv
      refine u_X13_conway_1 ?_; unfold qm_X13_conway_1
      refine w_leT (a := 40) (by omega) (by omega) (w_rdN (i := 0) rfl (by omega) (w_cs0 (to_open (pnL (i := 0) (by omega)) he hv9) (fun z2 ⟨o2, f2⟩ => w_okZ (Or.inl rfl) (w_wrF ?_))))
      have f3 : fr (fun g => g = 46) z2 (usF z2 46 0) := fr_F rfl
      have hA4 : rn_At (usF z2 46 0) (1000 * (0 + 4)) A [] := o2.1.1
      refine w_cs0 (tp_skeinH0 (e := 0) (H := 42) (Or.inl rfl) tp_leafC hA.1 hA.2.2.2.1 hA.2.2.2.2 hA4 po_usF_at) (fun z3 f4 => ?_)
      have f5 : fr (fun g => g = 42 ∨ g = 46 ∨ g = 41 ∨ 1000 ≤ g) (usF z 1 0) z3 := fr_tr (fr_mono (fun g hg => Or.inl hg) hf) (fr_tr (fr_mono (fun g hg => by omega) f2) (fr_tr (fr_mono (fun g hg => Or.inr (Or.inl hg)) f3) (fr_mono (fun g hg => by unfold skE at hg; omega) f4)))
      exact lp2 32 0 z3 (by omega) (twR_fr f5 (by omega) (by omega) hJ1)
    | succ dd ih =>
      intro i y hi hf
      refine u_X13_conway_1 ?_; unfold qm_X13_conway_1
      rw [nI_1]
      exact w_leF (a := 40) (by omega) (by omega) (w_wrJ ml42 rfl (by omega) (ih (i + 1) _ (by omega) (fr_J2 hf rfl)))
  exact lp1 40 0 (usF z 1 0) (by omega) fr_rf
end XTWR1
def gdK (y : ow_MS) (A : rn_L) (sg : Nat → Bool) : Prop := ∀ n W ov, 1 ≤ n → bdz n W ov A sg → twC y (Fz n W ov)
/-- the class's last table -/
def twK (y : ow_MS) : Prop := ∃ C, slC y 25000 0 C ∧ cOK C ∧ (C.2 = [] ∨ ∃ A sg c, C = clC sg A ∧ okL A c ∧ gdK y A sg)
theorem gdK_fr {P : Nat → Prop} {y y1 : ow_MS} {A : rn_L} {sg : Nat → Bool} (hf : fr P y y1) (hP : ¬ P 24004) (h : gdK y A sg) : gdK y1 A sg := fun n W ov hn hb => twC_fr hf hP (h n W ov hn hb)
theorem twK_fr {P : Nat → Prop} {y y1 : ow_MS} (hf : fr P y y1) (hP : ∀ g, P g → ¬ (g = 24004 ∨ 25001 ≤ g ∧ g ≤ 25003)) (h : twK y) : twK y1 := by
  obtain ⟨C, c1, c2, c3⟩ := h
  exact ⟨C, slC_fr hf (fun q hq h9 => hP q h9 (by unfold cW at hq; omega)) c1, c2, c3.imp id (fun ⟨A, sg, c, q1, q2, q3⟩ => ⟨A, sg, c, q1, q2, gdK_fr hf (fun h9 => hP _ h9 (by omega)) q3⟩)⟩
section XTWR2
variable {vl : Nat → Nat} {y : ow_MS} {St : plT} {x x' : Int32}
theorem xc_unfT {g' p' s' c : Nat} {A : rn_L} {sg : Nat → Bool} (hg' : tH g' p') (hd : g' + 6 ≤ 24000) (hs' : s' < p') (hb : slC y g' s' (clC sg A)) (hA : okL A c) (hby : byR y (g' + 1)) (hl : lvS y) (hbn : bnC y) (hK : twK y) : Te (fun K => ce_X8_unfoldCode vl K 24000 g' (nI s') y) (fun y1 => slC y1 25000 0 (clC sg A) ∧ gdK y1 A sg) := by
  obtain ⟨C, c1, c2, c3⟩ := hK
  refine e_X8_unfoldCode ?_; unfold cm_X8_unfoldCode_0
  refine w_cs1 (tc_isKnown2 (s := 0) (by omega) hg' (by omega) hs' hb (okL_c hA).2 hby c1 c2) ?_
  rintro v y1 ⟨h1, -, -, f1⟩
  dsimp only at h1 f1
  rcases h1 with ⟨rfl, rfl, eC, hlen⟩ | ⟨rfl, h1⟩
  · refine w_ifF (by decide) (w_some ⟨by rw [← eC]; exact c1, ?_⟩)
    rcases c3 with e | ⟨A', sg', c', q1, q2, q3⟩
    · rw [e] at hlen
      exact absurd hlen (by decide)
    · obtain ⟨u1, u2, u3⟩ := clC_inj hA q2 (eC.symm.trans q1)
      subst u1
      exact fun n W ov hn hbz => q3 n W ov hn (bd_sg hbz (fun p hp => (u3 p.1 ((hA.1.2 p).mp hp).1).symm))
  · have f1s : fr skP y y1 := fr_mono (fun g hg => by unfold cW at hg; unfold skP; omega) f1
    have l1 : lvS y1 := fun j hj => by
      obtain ⟨T, t1, t2⟩ := hl j hj
      exact ⟨T, cAt_fr f1 (fun g hg h9 => by unfold cP lv at hg; unfold cW at h9; omega) t1, t2⟩
    refine w_ifT rfl (w_cs0 (tc_fillA ch_24003 (by omega)) ?_)
    rintro y2 ⟨-, f2⟩
    refine w_cs0 (tc_fillA ch_24004 (by omega)) ?_
    rintro y3 ⟨z3, f3⟩
    have hc3 : twC y3 (fun _ _ => 0) := fun a b ha hb => z3 (a * 41 + b) (by omega)
    have f13a : fr (fun g => g = 24003 ∨ g = 24004) y1 y3 := fr_tr (fr_mono (fun g hg => by omega) f2) (fr_mono (fun g hg => by omega) f3)
    have l3 : lvS y3 := fun j hj => by
      obtain ⟨T, t1, t2⟩ := l1 j hj
      exact ⟨T, cAt_fr f13a (fun g hg h9 => by unfold cP lv at hg; omega) t1, t2⟩
    obtain ⟨T, t1, t2⟩ := l3 0 (by omega)
    have s3 : slC y3 g' s' (clC sg A) := slC_fr (fr_tr f1s (fr_mono (fun g hg => by unfold skP; omega) f13a)) (fun q hq h9 => by unfold cW at hq; unfold skP at h9; omega) hb
    have b3 : bnC y3 := bnC_fr (fr_tr f1s (fr_mono (fun g hg => by unfold skP; omega) f13a)) (fun m hm h9 => by unfold skP at h9; omega) hbn
    refine w_crX (j := 0) rfl (by omega) (w_cs0 (tc_load3 (lv_nH (L := 0) (by omega)) hg' (Or.inr (by omega)) hs' hA s3 t1 t2) ?_)
    rintro y4 ⟨⟨T1, q1, q2, q3, q4⟩, f4⟩
    have n4 := q1.2.2.1
    have l4 : lvS y4 := lvS_fr (L := 0) f4 (fun g hg => Or.inl (cL_in hg)) ⟨T1, q1.1, n4.2.2.1⟩ l3
    have b4 : bnC y4 := bnC_fr f4 (fun m hm h9 => by have := cL_in h9; unfold lv at this; omega) b3
    have hpm : pm1 T1 := fun x hx => by
      rw [q4 x (by omega)]
      cases sg x
      · exact Or.inl rfl
      · exact Or.inr rfl
    have nv4 : nvL 0 T1 := ⟨n4.1, n4.2.1, n4.2.2.1, by have := n4.2.2.2; omega⟩
    have hun : Te (fun K => ce_X8_unfold vl K 24000 0 1 0 0 y4) (fun z1 => (lvS z1 ∧ fr (unP 0) y4 z1) ∧ ∀ a : Nat × wd9 × (Nat → Bool), (1 ≤ a.1 ∧ bdz a.1 a.2.1 a.2.2 A sg) → ((lvS z1 ∧ fr (unP 0) y4 z1) ∧ twC z1 (fun p q => 0 + 1 * Fz a.1 a.2.1 a.2.2 (p - 0) (q - ((0 : Nat) : Int))))) := te_all (tc_unfold l4 q1.1 nv4) (fun a ha => xc_unfD2 ha.1 12 0 rfl T1 A sg a.2.2 a.2.1 (fun x => x) 1 (fun _ _ => 0) 0 y4 l4 b4 q1.1 nv4 (by have := n4.2.1; omega) (isoV_of q1.2.1 n4.1) hpm (by have := hA.2.2.2.2; omega) ha.2 (twC_fr f4 (fun h9 => by have := cL_in h9; unfold lv at this; omega) hc3) (by decide) (by decide))
    refine w_cs0 hun ?_
    rintro y5 ⟨⟨l5, f5⟩, c5⟩
    have f15 : fr (fun g => 24003 ≤ g ∧ g ≤ 24004 ∨ 26001 ≤ g ∧ g ≤ 38011) y1 y5 := fr_tr (fr_mono (fun g hg => by omega) f13a) (fr_tr (fr_mono (fun g hg => by have := cL_in hg; unfold lv at this; omega) f4) (fr_mono (fun g hg => by unfold unP at hg; omega) f5))
    refine w_some ⟨slC_fr f15 (fun q hq h9 => by unfold cW at hq; omega) h1, fun n W ov hn hbz => twC_cg (c5 (n, W, ov) ⟨hn, hbz⟩).2 (fun p q => ?_)⟩
    show 0 + 1 * Fz n W ov (p - 0) (q - ((0 : Nat) : Int)) = Fz n W ov p q
    rw [show p - 0 = p by omega, show q - ((0 : Nat) : Int) = q by omega, Int.one_mul, Int.zero_add]
theorem xc_conT (hM : gM y) (hC : relC y St) (hS : okS St) (hbn : bnC y) (hK : twK y) : Te (fun K => ce_X11_conway vl K 0 x x' y) (fun r => twK r.2.2) := by
  refine e_X11_conway ?_; unfold cm_X11_conway_0
  refine w_tc0 (xc_need hM.1.1 hC hS) ?_ ?_
  · rintro y1 ⟨h1, rfl⟩
    rcases h1 with h1 | ⟨-, d, A, sg, c, hd, rfl, hSt, hs, hA, hne, hpl⟩
    · exact absurd (show (0 : Nat) = 1 from h1.1) (by decide)
    · refine w_cs0 (xc_unfT ch_1000 (by omega) hd hs hA hM.1.1.1 (lvS_ns hM.1.2.1) hbn hK) ?_
      rintro y2 ⟨k2, k3⟩
      refine w_cs1 tc_conwayAt ?_
      rintro v z ⟨e2, a1, a2⟩
      dsimp only at e2 a1 a2
      rw [e2]
      exact w_some ⟨_, k2, (okL_c hA).2, Or.inr ⟨A, sg, c, rfl, hA, k3⟩⟩
  · rintro a y1 ha ⟨h1, rfl⟩
    exact w_some hK
theorem xc_twoAt : Te (fun K => ce_X8_twoAt vl K 24000 x x' y) (fun r => r.2 = y ∧ ∀ F, twC y F → twN9 F x x' r.1) := by
  have e1 : ∀ u : Int32, u.toInt64 = Int64.ofInt u.toInt := fun u => by
    have := Int32.toInt64_ofInt (n := u.toInt) (Int32.minValue_le_toInt u) (Int32.toInt_le u)
    rw [Int32.ofInt_toInt] at this
    exact this
  have bd : ∀ u : Int32, (-2147483648 : Int) ≤ u.toInt ∧ u.toInt ≤ (2147483647 : Int) := fun u => ⟨Int32.minValue_le_toInt u, Int32.toInt_le u⟩
  have b1 := bd x
  have b2 := bd x'
  refine e_X8_twoAt ?_; unfold cm_X8_twoAt_0
  rw [e1 x, e1 x']
  refine w_cs1 (xc_tIx (by omega) (by omega) (by omega) (by omega)) ?_
  rintro v z ⟨e2, h2⟩
  dsimp only at h2 e2
  rw [e2]
  rcases h2 with ⟨a, b, ha, hb, ea, eb, rfl⟩ | ⟨rfl, hno⟩
  · refine w_ifF (rn_neg1 (by omega)) (w_crI ch_24004 rfl (show a * 41 + b < 5289 by omega) rfl (w_some ⟨rfl, fun F hF => ⟨fun _ => ?_, fun h9 => absurd ⟨by omega, by omega, by omega, by omega⟩ h9⟩⟩))
    show y.2.1 24004 (a * 41 + b) = _
    rw [hF a b ha hb, ea, eb]
  · exact w_ifT rfl (w_some ⟨rfl, fun F hF => ⟨fun h9 => absurd h9 hno, fun _ => rfl⟩⟩)
theorem xc_two0 (hB : brC y) (hn : noB (y.2.1 15) x) {i j : Int32} : Te (fun K => ce_X11_two vl K 0 x i j y) (fun r => r.1 = 1 ∧ r.2.2 = y) := by
  refine e_X11_two ?_; unfold cm_X11_two_0
  refine w_tc0 (tc_needBraid (brC_E hB)) ?_ ?_
  · rintro y1 ⟨h1, rfl⟩
    rcases h1 with ⟨-, hb⟩ | h1
    · exfalso
      obtain ⟨b, n, l, hb20, e, hn2, hn5, e15, l16, e14, hw⟩ := isB_w hB hb
      have h9 := hn b hb20 e
      rw [e15] at h9
      exact absurd h9 (nI_ne0 (by omega) (by omega))
    · exact absurd (show (0 : Nat) = 1 from h1.1) (by decide)
  · rintro a y1 ha ⟨h1, rfl⟩
    rcases h1 with h1 | h1
    · exact absurd h1.1 ha
    · exact w_some ⟨h1.1, rfl⟩
theorem xc_two {b n l : Nat} {w : Nat → Nat} {lp : Nat → Bool} {A : rn_L} {sg : Nat → Bool} (hM : gM y) (hB : brC y) (hk : knC y) (hb : b < 20) (hn2 : 2 ≤ n) (hn5 : n ≤ 5) (h15 : y.2.1 15 b = nI n) (hl : l ≤ 16) (h14 : y.2.1 14 b = nI l) (hw : ltX 13 y b n l w lp) (hbn : bnC y) (hK : twK y) (hW : cwK y) (hF : l ≤ 10 → twF w lp n l A sg) : Te (fun K => ce_X11_two vl K 0 (nI b) x x' y) (fun r => (twK r.2.2 ∧ cwK r.2.2) ∧ (r.1 = 4 ∧ r.2.2 = y ∧ 10 < l ∨ l ≤ 10 ∧ r.1 = 0 ∧ ∃ W ov, bdz n W ov A sg ∧ twN9 (Fz n W ov) x x' r.2.1)) := by
  have hwn : ∀ i, i < l → w i + 1 < n := fun i hi => (hw i hi).1
  refine e_X11_two ?_; unfold cm_X11_two_0
  refine w_tc0 (tc_needBraid (brC_E hB)) ?_ ?_
  · rintro y1 ⟨h1, rfl⟩
    refine w_crI ch_14 rfl hb h14 (w_le (b := 10) (by omega) (by omega) (fun h12 => ?_) (fun h12 => w_some ⟨⟨hK, hW⟩, Or.inl ⟨rfl, rfl, h12⟩⟩))
    obtain ⟨T, t1, t2⟩ := hM.1.2.1 4000 nH4
    refine w_crI ch_14 rfl hb h14 (w_crI ch_15 rfl hb h15 ?_)
    rw [m16]
    refine w_cs0 (xc_close t1 t2 hb hn2 hn5 (by omega) hw) ?_
    rintro y3 ⟨⟨T1, g1, g2, g3, g4, g5, g6⟩, f3⟩
    have hN3 : gN y3 := gN_net nH4 f3 (fun g hg => by unfold clR cP at hg; omega) ⟨T1, g1, g2.2.2.1⟩ hM.1
    have f3u : fr uP y1 y3 := fr_mono (fun g hg => by unfold clR cP at hg; unfold uP; omega) f3
    have hk7 : kH 7000 := Or.inl rfl
    have hb7 := hN3.2.2 7000 hk7
    refine w_cs0 (tc_encode hk7 nH4 g1 g2 hb7.1 hb7.2.1 hb7.2.2) ?_
    rintro y4 ⟨⟨Cs, os, z1, z2, z3⟩, b1, b2, b3, hy4, f4⟩
    have f4u : fr uP y3 y4 := fr_mono (fun g hg => by
      unfold enP cpP epP cV cQ at hg
      unfold uP
      omega) f4
    have f14 : fr uP y1 y4 := fr_tr f3u f4u
    have hl4 : lvS y4 := fun j hj => by
      obtain ⟨T, t1, t2⟩ := lvS_ns hM.1.2.1 j hj
      exact ⟨T, cAt_fr f14 (fun g hg h9 => by unfold cP lv at hg; unfold uP at h9; omega) t1, t2⟩
    subst g3
    obtain ⟨Rs, m, P, k1, k2, k3, k4, k5, k6⟩ := hF h12
    have hiso := cl_iso (by omega) g2.1 hwn g5 g4 g6 k1 k3
    obtain ⟨m1, m2⟩ := cl_pl (by omega) g2.1 hwn g5 g4
    obtain ⟨A', sg', p1, p2, p3, p4, f', p5⟩ := enc_iso (isoS_iff.mp hiso.1) (by unfold rgS; rw [List.length_map]; omega) g2 k4 z1
    obtain ⟨u1, u2⟩ := tk_inj A A' k6 (okL_u p2) (k5.symm.trans p1)
    subst u1
    have hnr : nrm A sg' := ⟨T1, f', Cs, os, g2, m1, p5, z1, p3⟩
    rw [p3] at z2
    have k4' : knC y4 := knC_fr f14 (fun g hg => by unfold uP at hg; omega) hk
    have bn4 : bnC y4 := bnC_fr f14 (fun m hm h9 => by unfold uP at h9; omega) hbn
    have tw4 : twK y4 := twK_fr f14 (fun g hg h9 => by unfold uP at hg; omega) hK
    have cw4 : cwK y4 := cwK_fr f14 (fun g hg h9 => by unfold uP at hg; omega) hW
    refine w_cs0 (te_and (xc_unfoldCode (s' := 0) (kH_out hk7) (by omega) Nat.one_pos z2 p2 b1 hnr hl4 cw4) (xc_unfT (s' := 0) (kH_out hk7) (by omega) Nat.one_pos z2 p2 b1 hl4 bn4 tw4)) ?_
    rintro y5 ⟨⟨s1, s2⟩, s3, s4⟩
    refine w_cs1 xc_twoAt ?_
    rintro v z ⟨e2, h2⟩
    dsimp only at e2 h2
    rw [e2]
    obtain ⟨W, hbz⟩ := bd_cl p5 hiso hwn k1 k3
    exact w_some ⟨⟨⟨_, s3, (okL_c p2).2, Or.inr ⟨A, sg', _, rfl, p2, s4⟩⟩, ⟨_, s1, (okL_c p2).2, Or.inr ⟨A, sg', _, rfl, p2, s2⟩⟩⟩, Or.inr ⟨h12, rfl, W, _, bd_sg hbz u2, h2 _ (s4 n W _ (by omega) hbz)⟩⟩
  · rintro a y1 ha ⟨h1, rfl⟩
    rcases h1 with h1 | h1
    · exact absurd h1.1 ha
    · have := h1.2 b hb rfl
      rw [h15] at this
      exact absurd this (nI_ne0 (by omega) (by omega))
end XTWR2
