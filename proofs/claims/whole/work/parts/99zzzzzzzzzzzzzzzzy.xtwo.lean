/-! two: the reference's answer, exactly -/
/-- what two answers -/
def twN9 (F : pz9) (i j v : Int32) : Prop := (-64 ≤ i.toInt ∧ i.toInt ≤ 64 ∧ -20 ≤ j.toInt ∧ j.toInt ≤ 20 → v = iI (F i.toInt j.toInt)) ∧ (¬ (-64 ≤ i.toInt ∧ i.toInt ≤ 64 ∧ -20 ≤ j.toInt ∧ j.toInt ≤ 20) → v = 0)
theorem twN_uni {F : pz9} {i j v w : Int32} (h1 : twN9 F i j v) (h2 : twN9 F i j w) : v = w := by
  by_cases c : -64 ≤ i.toInt ∧ i.toInt ≤ 64 ∧ -20 ≤ j.toInt ∧ j.toInt ≤ 20
  · rw [h1.1 c, h2.1 c]
  · rw [h1.2 c, h2.2 c]
theorem bd_nf {n : Nat} {W : wd9} {ov sg : Nat → Bool} {A : rn_L} (h : bdz n W ov A sg) {x : Nat} (hx : x ∈ nmz W) : ∃ p, p ∈ A.flatten ∧ p.1 = x := by
  obtain ⟨-, ⟨L, hL, eA⟩, -⟩ := h
  refine ⟨trz ov (x, 1), ?_, rfl⟩
  rw [eA, pj_fl]
  exact pj_mem.mpr ⟨(x, 1), (hL.2.2 _).mpr (Or.inr ⟨by omega, hx⟩), by show (1 : Nat) ≠ 2; decide, rfl⟩
theorem bd_sg {n : Nat} {W : wd9} {ov sg sg' : Nat → Bool} {A : rn_L} (h : bdz n W ov A sg) (e : ∀ p, p ∈ A.flatten → sg' p.1 = sg p.1) : bdz n W ov A sg' := ⟨h.1, h.2.1, fun x hx => by
  obtain ⟨p, h1, h2⟩ := bd_nf h hx
  have h3 := e p h1
  rw [h2] at h3
  rw [h3]
  exact h.2.2 x hx⟩
def gdT (z : ow_MS) (A : rn_L) (sg : Nat → Bool) : Prop := ∀ n W ov, 1 ≤ n → bdz n W ov A sg → twA z (Fz n W ov)
/-- the reference's last table -/
def twR (z : ow_MS) : Prop := ∀ T1, rc_At z 45 0 T1 → T1 = [] ∨ ∃ A sg, (∀ p : Nat × Nat, p ∈ A.flatten → p.2 < 2) ∧ T1 = tk sg A ∧ gdT z A sg
theorem gdT_fr {P : Nat → Prop} {z z1 : ow_MS} {A : rn_L} {sg : Nat → Bool} (hf : fr P z z1) (hP : ¬ P 44) (h : gdT z A sg) : gdT z1 A sg := fun n W ov hn hb => twA_fr hf hP (h n W ov hn hb)
theorem twR_fr {P : Nat → Prop} {z z1 : ow_MS} (hf : fr P z z1) (h1 : ¬ P 44) (h2 : ¬ P 45) (h : twR z) : twR z1 := by
  intro T1 hT
  have hT' : rc_At z 45 0 T1 := by
    obtain ⟨a1, a2, a3, a4⟩ := hT
    rw [(hf 45 h2).2.1] at a3
    exact ⟨a1, a2, a3, fun k t hk => by rw [← (hf 45 h2).2.1]; exact a4 k t hk⟩
  rcases h T1 hT' with e | ⟨A, sg, q1, q2, q3⟩
  · exact Or.inl e
  · exact Or.inr ⟨A, sg, q1, q2, gdT_fr hf h1 q3⟩
section XTWO
variable {X : (Nat → Nat → Int32) → Prop} {z : ow_MS}
/-- what the reference's close and pack leave -/
def twF (w : Nat → Nat) (lp : Nat → Bool) (n l : Nat) (A : rn_L) (sg : Nat → Bool) : Prop := ∃ Rs m P, clQ w n l Rs ∧ Rs.length ≤ n ∧ (∀ s, s < n → s ∈ Rs.flatten) ∧ mk (rgS w lp l Rs) m P ∧ pkR (rgS w lp l Rs) (fun i => !lp i) m P = tk sg A ∧ ∀ p : Nat × Nat, p ∈ A.flatten → p.2 < 2
theorem xq_two {b n l : Nat} {w : Nat → Nat} {lp : Nat → Bool} {k j : Int32} (h : gI X z) (hb : b < 20) (hB : hBr z b n l) (hw : ltX 94 z b n l w lp) (hJ : twR z) (hW : cwR z) : Te (fun K => qe_X13_two K (nI b) k j z) (fun r => (twR r.2 ∧ cwR r.2) ∧ (rFl X z 2 r ∧ 10 < l ∨ l ≤ 10 ∧ r.2.1 1 = 0 ∧ ∃ A sg, twF w lp n l A sg ∧ ∀ nn W ov, 1 ≤ nn → bdz nn W ov A sg → twN9 (Fz nn W ov) k j r.1)) := by
  let Q : Int32 × ow_MS → Prop := fun r => (twR r.2 ∧ cwR r.2) ∧ (rFl X z 2 r ∧ 10 < l ∨ l ≤ 10 ∧ r.2.1 1 = 0 ∧ ∃ A sg, twF w lp n l A sg ∧ ∀ nn W ov, 1 ≤ nn → bdz nn W ov A sg → twN9 (Fz nn W ov) k j r.1)
  have h1 := gI_1 (c := 0) h
  have p1 := hB.1
  have p2 := hB.2.1
  have p3 := hB.2.2.1
  have c4 : ∀ {x1 : Int32} {y : ow_MS} {A : rn_L} {sg : Nat → Bool}, ¬ (-64 ≤ k.toInt ∧ k.toInt ≤ 64 ∧ -20 ≤ j.toInt ∧ j.toInt ≤ 20) → l ≤ 10 → y.1 1 = 0 → twR y ∧ cwR y → twF w lp n l A sg → Tt (fun K i => q_X13_two K i 4 x1 k j 0 y) Q := by
    intro x1 y A sg hno hl g1 g2 g3
    refine u_X13_two_4 ?_; unfold qm_X13_two_4
    exact w_some ⟨g2, Or.inr ⟨hl, g1, A, sg, g3, fun nn W ov _ _ => ⟨fun h9 => absurd h9 hno, fun _ => rfl⟩⟩⟩
  have c3 : ∀ {x1 : Int32} {y : ow_MS} {A : rn_L} {sg : Nat → Bool}, l ≤ 10 → y.1 1 = 0 → twR y ∧ cwR y → twF w lp n l A sg → gdT y A sg → Tt (fun K i => q_X13_two K i 3 x1 k j 0 y) Q := by
    intro x1 y A sg hl g1 g2 g3 g4
    have t1 : (k < (-64 : Int32)) ↔ k.toInt < -64 := Int32.lt_iff_toInt_lt
    have t2 : ((64 : Int32) < k) ↔ 64 < k.toInt := Int32.lt_iff_toInt_lt
    have t3 : (j < (-20 : Int32)) ↔ j.toInt < -20 := Int32.lt_iff_toInt_lt
    have t4 : (j ≤ (20 : Int32)) ↔ j.toInt ≤ 20 := Int32.le_iff_toInt_le
    refine u_X13_two_3 ?_; unfold qm_X13_two_3
    refine w_if (fun h2 => c4 (by have := t1.mp h2; omega) hl g1 g2 g3) (fun h2 => w_if (fun h3 => c4 (by have := t2.mp h3; omega) hl g1 g2 g3) (fun h3 => w_if (fun h4 => c4 (by have := t3.mp h4; omega) hl g1 g2 g3) (fun h4 => w_if (fun h5 => ?_) (fun h5 => c4 (by have h9 : ¬ (j.toInt ≤ 20) := fun h9 => h5 (t4.mpr h9); omega) hl g1 g2 g3))))
    have b1 : ¬ (k.toInt < -64) := fun h9 => h2 (t1.mpr h9)
    have b2 : ¬ (64 < k.toInt) := fun h9 => h3 (t2.mpr h9)
    have b3 : ¬ (j.toInt < -20) := fun h9 => h4 (t3.mpr h9)
    have b4 := t4.mp h5
    obtain ⟨a, ea⟩ : ∃ a : Nat, k.toInt = (a : Int) - 64 := ⟨(k.toInt + 64).toNat, by omega⟩
    obtain ⟨t, et⟩ : ∃ t : Nat, j.toInt = (t : Int) - 20 := ⟨(j.toInt + 20).toNat, by omega⟩
    have ek : k = iI ((a : Int) - 64) := by
      rw [← ea]
      exact (Int32.ofInt_toInt k).symm
    have ej : j = iI ((t : Int) - 20) := by
      rw [← et]
      exact (Int32.ofInt_toInt j).symm
    have e2 : (129 : Int32) * (j + 20) + k + 64 = nI (129 * t + a) := by
      rw [ek, ej]
      show (iI 129 * (iI ((t : Int) - 20) + iI 20) + iI ((a : Int) - 64)) + iI 64 = _
      rw [iI_add, iI_mul, iI_add, iI_add]
      exact iI_nI (by omega)
    rw [e2]
    refine w_rdJ ml44 rfl (by omega) rfl (w_some ⟨g2, Or.inr ⟨hl, g1, A, sg, g3, fun nn W ov hnn hbz => ⟨fun _ => ?_, fun h9 => absurd ⟨by omega, by omega, by omega, by omega⟩ h9⟩⟩⟩)
    show (y.2.2 44 (129 * t + a)).toInt32 = _
    rw [g4 nn W ov hnn hbz a t (by omega) (by omega), i64_i32, ea, et]
  refine e_X13_two ?_
  refine u_X13_two_0 ?_; unfold qm_X13_two_0
  refine w_wrF (w_hasBX h1.2.2.2.2.2.1 (fun h0 => ?_) (fun c n' l' hc hx hh => w_ifF (by decide) ?_))
  · have := h0 b hb rfl
    have e : (usF z 1 0).2.1 96 b = nI n := hB.2.2.2.1
    rw [e] at this
    exact absurd this (nI_ne0 (by omega) (by omega))
  · have ec : b = c := nI_inj9 (by omega) (by omega) hx
    subst ec
    have e5 : (usF z 1 0).2.1 95 b = nI l := hB.2.2.2.2.1
    have hJ1 : twR (usF z 1 0) := twR_fr (fr_F (P := fun g => g = 1) rfl) (by decide) (by decide) hJ
    have hW1 : cwR (usF z 1 0) := cwR_fr (fr_F (P := fun g => g = 1) rfl) (by decide) (by decide) hW
    refine w_rdI ml95 rfl (by omega) e5 (w_le (b := 10) (by omega) (by omega) (fun h12 => ?_) (fun h12 => w_mono (w_failX (k := 2) h1 fr_1) (fun r hr => ⟨⟨twR_fr hr.2.2 (by unfold rPs rSc; omega) (by unfold rPs rSc; omega) hJ, cwR_fr hr.2.2 (by unfold rPs rSc; omega) (by unfold rPs rSc; omega) hW⟩, Or.inl ⟨hr, h12⟩⟩)))
    have hB1 : hBr (usF z 1 0) b n l := hB
    refine w_cs0 (xr_close hb hB1 (w := w) (lp := lp) hw) ?_
    rintro z4 ⟨f4, Rs, k1, k2, k3, k4, k5⟩
    have hwn : ∀ i, i < l → w i + 1 < n := fun i hi => (hw i hi).1
    have ok := cl_ok (lp := lp) hwn k1 k3
    have okl := okF_len ok
    have hFr : wkF (rgS w lp l Rs).flatten := okF_wk (by omega) ok
    have hRl : (rgS w lp l Rs).length ≤ 5 := by
      unfold rgS
      rw [List.length_map]
      omega
    have hz1 : z4.1 1 = 0 := by
      rw [(f4 1 (by unfold frK; omega)).1]
      exact po_usF_at
    have hJ4 : twR z4 := twR_fr f4 (by unfold frK; omega) (by unfold frK; omega) hJ1
    have g4 : gI X z4 := gI_fr f4 (fun g hg => by unfold frK at hg; unfold per; omega) h1
    refine w_cs0 (tr_pack (h := 27) (o := 0) pn3 (by omega) ml27 (by omega) (by omega) (by omega) (by omega) hFr k4 k5) ?_
    rintro y2 ⟨m, P, hk, hr, f2, -, -, -⟩
    obtain ⟨A, sg, cc, eA, hok, l1, l2⟩ := pkR_ok (sg := fun i => !lp i) hFr hk
    rw [eA] at hr
    have g2 : gI X y2 := gI_fr f2 (fun g hg => by unfold frQ at hg; unfold per; omega) g4
    have hJ2 : twR y2 := twR_fr f2 (by unfold frQ; omega) (by unfold frQ; omega) hJ4
    have hW2 : cwR y2 := cwR_fr f2 (by unfold frQ; omega) (by unfold frQ; omega) (cwR_fr f4 (by unfold frK; omega) (by unfold frK; omega) hW1)
    have hy2 : y2.1 1 = 0 := by
      rw [(f2 1 (by unfold frQ; omega)).1]
      exact hz1
    have hFF : twF w lp n l A sg := ⟨Rs, m, P, k1, k2, k3, hk, eA, fun p hp => ((hok.2 p).mp hp).2⟩
    obtain ⟨_, ⟨T1, q1⟩, kC⟩ := g2.2.2.2.2.1
    have hTl := hr.1
    have hneA : A ≠ [] := fun e9 => by
      have h0 := k3 0 (by omega)
      rw [e9, List.length_nil] at l2
      unfold rgS at l2
      rw [List.length_map] at l2
      rw [List.eq_nil_of_length_eq_zero l2.symm] at h0
      cases h0
    refine w_cs1 (tr_same (o := 0) (p := 0) ml27 ml45 (by omega) (by omega) (by omega) (by omega) hr q1) (fun a y9 e9 => ?_)
    cases e9
    refine w_if (fun _ => ?_) (fun h8 => ?_)
    rotate_left
    · have eS : tk sg A = T1 := by
        by_cases q : tk sg A = T1
        · exact q
        · exact absurd (by rw [decide_eq_false q]; rfl) h8
      rcases hJ2 T1 q1 with q | ⟨A9, sg9, q2, q3, q4⟩
      · have := tk_pos (sg := sg) hneA
        rw [eS, q] at this
        exact absurd this (by decide)
      · obtain ⟨u1, u2⟩ := tk_inj A A9 (fun p hp => ((hok.2 p).mp hp).2) q2 (eS.trans q3)
        subst u1
        exact c3 h12 hy2 ⟨hJ2, hW2⟩ hFF (fun nn W ov hnn hbz => q4 nn W ov hnn (bd_sg hbz (fun p hp => (u2 p hp).symm)))
    have hFw : wkF A.flatten := okF_wk (by omega) hok
    have hAl := okF_len hok
    have lp2 : ∀ (dd i : Nat) (y1 y : ow_MS), i + dd = 32 → y1.2.1 27 = y2.2.1 27 → y1.1 1 = 0 → gdT y1 A sg → cwR y1 → fr (fun g => g = 45) y1 y → (∀ t, t < i → y.2.1 45 t = y1.2.1 27 (0 + t)) → Tt (fun K t => q_X13_two K t 2 (nI b) k j (nI i) y) Q := by
      intro dd
      induction dd with
      | zero =>
        intro i y1 y hi e12 e1 h44 h42 hf ht
        have hrow : rc_At y1 27 0 (tk sg A) := by
          obtain ⟨a1, a2, a3, a4⟩ := hr
          exact ⟨a1, a2, by rw [e12]; exact a3, fun k t hk => by rw [e12]; exact a4 k t hk⟩
        have hr45 : rc_At y 45 0 (tk sg A) := rc_cpy hrow (fun t h9 => ht t (by omega))
        have h44' : gdT y A sg := gdT_fr hf (by decide) h44
        refine u_X13_two_2 ?_; unfold qm_X13_two_2
        exact w_leT (a := 32) (by omega) (by omega) (c3 h12 (by rw [(hf 1 (by decide)).1]; exact e1) ⟨fun T9 hT9 => Or.inr ⟨A, sg, fun p hp => ((hok.2 p).mp hp).2, rc_uni hT9 hr45, h44'⟩, cwR_fr hf (by decide) (by decide) h42⟩ hFF h44')
      | succ dd ih =>
        intro i y1 y hi e12 e1 h44 h42 hf ht
        refine u_X13_two_2 ?_; unfold qm_X13_two_2
        rw [nI_1]
        refine w_leF (a := 32) (by omega) (by omega) (w_rdI ml27 rfl (by omega) rfl (w_wrI ml45 rfl (by omega) (ih (i + 1) y1 _ (by omega) e12 e1 h44 h42 (fr_I2 hf rfl) (fun t h9 => ?_))))
        by_cases hti : t = i
        · rw [hti, po_usI_at, (hf 27 (by decide)).2.1, Nat.zero_add]
        · exact rd_ne hti (ht t (by omega))
    have lp1 : ∀ (dd i : Nat) (y : ow_MS), i + dd = 5289 → fr (fun g => g = 44) y2 y → (∀ t, t < i → y.2.2 44 t = Int64.ofInt 0) → Tt (fun K t => q_X13_two K t 1 (nI b) k j (nI i) y) Q := by
      intro dd
      induction dd with
      | zero =>
        intro i y hi hf ht
        have hry : rc_At y 27 0 (tk sg A) := rc_fr hf (by decide) hr
        refine u_X13_two_1 ?_; unfold qm_X13_two_1
        refine w_leT (a := 5289) (by omega) (by omega) (w_rdN (i := 0) rfl (by omega) (w_cs0 (tr_unpack (o := 0) (pnL (i := 0) (by omega)) (by omega) ml27 (by omega) (by omega) (by omega) (by omega) (fun p hp => by have := (hok.2 p).mp hp; omega) hry) (fun z2 ⟨hA, hS, f5⟩ => w_okZ (Or.inr rfl) (w_wrF ?_))))
        have f3 : fr (fun g => g = 46) z2 (usF z2 46 1) := fr_F rfl
        have hA4 : rn_At (usF z2 46 1) (1000 * (0 + 4)) A [] := fr_At f3 (fun g hg => by omega) hA
        have hS4 : rn_sg (usF z2 46 1) (1000 * (0 + 4)) A.flatten sg := hS
        have hcw : twA (usF z2 46 1) (fun _ _ => 0) := twA_fr f3 (by decide) (twA_fr f5 (by omega) (fun a b ha hb => ht (129 * b + a) (by omega)))
        obtain ⟨hg, ho⟩ := ou_all hFw (by omega)
        have hsk : Te (fun K => qe_X13_skein K 0 1 0 0 (usF z2 46 1)) (fun z1 => fr (skE 44 0) (usF z2 46 1) z1 ∧ ∀ a : Nat × wd9 × (Nat → Bool), (1 ≤ a.1 ∧ bdz a.1 a.2.1 a.2.2 A sg) → (fr (skH 0) (usF z2 46 1) z1 ∧ twA z1 (fun p q => 0 + 1 * Fz a.1 a.2.1 a.2.2 (p - (((40 : Nat) : Int) - 40)) (q - ((0 : Nat) : Int))))) := te_all (tp_skeinH0 (e := 1) (H := 44) (Or.inr rfl) tp_leafT hok (by omega) (by omega) hA4 po_usF_at) (fun a ha => xr_skein2 ha.1 12 0 16 0 0 40 A sg 1 (fun _ _ => 0) a.2.1 a.2.2 (usF z2 46 1) (by omega) (by omega) (by omega) hFw (by omega) (by omega) hA4 hS4 hg ho (by omega) (by omega) (Or.inl rfl) po_usF_at hcw ha.2)
        refine w_cs0 hsk (fun z3 ⟨f6, c6⟩ => ?_)
        have f7 : fr (fun g => g = 44 ∨ g = 46 ∨ g = 41 ∨ 1000 ≤ g) y2 z3 := fr_tr (fr_mono (fun g hg => Or.inl hg) hf) (fr_tr (fr_mono (fun g hg => by omega) f5) (fr_tr (fr_mono (fun g hg => Or.inr (Or.inl hg)) f3) (fr_mono (fun g hg => by unfold skE at hg; omega) f6)))
        refine lp2 32 0 z3 z3 (by omega) (f7 27 (by omega)).2.1 (by rw [(f7 1 (by omega)).1]; exact hy2) (fun nn W ov hnn hbz => twA_cg (c6 (nn, W, ov) ⟨hnn, hbz⟩).2 (fun p q => ?_)) (cwR_fr f7 (by omega) (by omega) hW2) fr_rf (fun t ht => absurd ht (by omega))
        show 0 + 1 * Fz nn W ov (p - (((40 : Nat) : Int) - 40)) (q - ((0 : Nat) : Int)) = Fz nn W ov p q
        rw [show p - (((40 : Nat) : Int) - 40) = p by omega, show q - ((0 : Nat) : Int) = q by omega, Int.one_mul, Int.zero_add]
      | succ dd ih =>
        intro i y hi hf ht
        refine u_X13_two_1 ?_; unfold qm_X13_two_1
        rw [nI_1]
        refine w_leF (a := 5289) (by omega) (by omega) (w_wrJ ml44 rfl (by omega) (ih (i + 1) _ (by omega) (fr_J2 hf rfl) (fun t h9 => ?_)))
        by_cases hti : t = i
        · rw [hti, usJ_at]
          rfl
        · rw [usJ_ne hti]
          exact ht t (by omega)
    exact lp1 5289 0 y2 (by omega) fr_rf (fun t ht => absurd ht (by omega))
theorem xq_two0 {x k j : Int32} (h : gI X z) (hn : noB (z.2.1 96) x) (hJ : twR z) (hW : cwR z) : Te (fun K => qe_X13_two K x k j z) (fun r => (twR r.2 ∧ cwR r.2) ∧ rFl X z 1 r) := by
  have h1 := gI_1 (c := 0) h
  refine e_X13_two ?_
  refine u_X13_two_0 ?_; unfold qm_X13_two_0
  refine w_wrF (w_hasBX h1.2.2.2.2.2.1 (fun h0 => w_ifT rfl (w_mono (w_failX (k := 1) h1 fr_1) (fun r hr => ⟨⟨twR_fr hr.2.2 (by unfold rPs rSc; omega) (by unfold rPs rSc; omega) hJ, cwR_fr hr.2.2 (by unfold rPs rSc; omega) (by unfold rPs rSc; omega) hW⟩, hr⟩))) (fun c n' l' hc hx hh => ?_))
  have h9 := hn c hc hx
  have e : z.2.1 96 c = nI n' := hh.2.2.2.1
  have := hh.1
  have := hh.2.1
  rw [e] at h9
  exact absurd h9 (nI_ne0 (by omega) (by omega))
end XTWO
