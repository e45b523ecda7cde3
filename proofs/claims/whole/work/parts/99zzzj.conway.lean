/-! conway and two have an answer -/
theorem i32_rng {x : Int32} {c : Nat} (hc : c ≤ 1000) (h1 : ¬ x < -(nI c)) (h2 : ¬ nI c < x) : ∃ a, a ≤ 2 * c ∧ x = nI a - nI c := by
  have e1 : (nI c).toInt = c := nI_toInt (by omega)
  have e2 : (-(nI c)).toInt = -(c : Int) := by
    rw [Int32.toInt_neg, e1]
    exact Int.bmod_eq_of_le (by omega) (by omega)
  have g1 : -(c : Int) ≤ x.toInt := by
    rw [Int32.lt_iff_toInt_lt, e2] at h1
    omega
  have g2 : x.toInt ≤ (c : Int) := by
    rw [Int32.lt_iff_toInt_lt, e1] at h2
    omega
  refine ⟨(x.toInt + c).toNat, by omega, ?_⟩
  apply Int32.toInt_inj.mp
  have e3 : (nI (x.toInt + c).toNat).toInt = x.toInt + c := by
    rw [nI_toInt (by omega)]
    omega
  rw [Int32.toInt_sub, e1, e3]
  rw [Int.bmod_eq_of_le (by omega) (by omega)]
  omega
section CONW
variable {X : (Nat → Nat → Int32) → Prop} {z : ow_MS}
theorem gI_cash {P : Nat → Prop} {z z1 : ow_MS} (hf : fr P z z1) (hP : ∀ g, P g → (g = 43 ∨ g = 45 ∨ g = 50 ∨ g = 65 ∨ g = 67) ∨ ¬ per g) (hr : gCash z1) (h : gI X z) : gI X z1 := by
  obtain ⟨h1, h2, h3, h4, h5, h6, h7⟩ := h
  have no : ∀ g, per g → ¬ (g = 43 ∨ g = 45 ∨ g = 50 ∨ g = 65 ∨ g = 67) → ¬ P g := fun g hg hn h9 => (hP g h9).elim hn (fun h8 => h8 hg)
  exact ⟨gTape_fr hf (no 11 (by decide) (by decide)) h1, gRows_fr hf (no 12 (by decide) (by decide)) h2, gList_fr hf (no 20 (by decide) (by decide)) (no 21 (by decide) (by decide)) (no 22 (by decide) (by decide)) h3, gSum_fr hf (no 35 (by decide) (by decide)) (no 39 (by decide) (by decide)) (no 36 (by decide) (by decide)) h4, hr, gBrs_fr hf (no 94 (by decide) (by decide)) (no 95 (by decide) (by decide)) (no 96 (by decide) (by decide)) h6, gX_fr hf (fun g hg h9 => no g (by unfold per; omega) (by omega) hg) h7⟩
/-- a row of 32 that is copied -/
theorem rc_cpy {z z1 : ow_MS} {h o g : Nat} {T : List Nat} (hr : rc_At z h o T) (he : ∀ i, i < 32 → z1.2.1 g i = z.2.1 h (o + i)) : rc_At z1 g 0 T := by
  obtain ⟨h1, h2, h3, h4⟩ := hr
  refine ⟨h1, h2, by rw [he 0 (by omega)]; exact h3, fun k t hk => ?_⟩
  have := (List.getElem?_eq_some_iff.mp hk).1
  rw [Nat.zero_add, he (k + 1) (by omega)]
  exact h4 k t hk
theorem tp_skein0 {A : rn_L} {c : Nat} (hok : okF A.flatten c) (hc : c ≤ 12) (hC : A.length ≤ 6) (hA : rn_At z 4000 A []) : Te (fun K => qe_X13_skein K 0 1 0 0 z) (fun z1 => fr (skH 0) z z1) := by
  have hl := okF_len hok
  have hw : wkF A.flatten := okF_wk (by omega) hok
  have ho : ouT A 0 c := ⟨List.range c, by rw [List.length_range]; exact Nat.le_refl _, fun v hv => Or.inr (List.mem_range.mpr ((hok.2 _).mp (List.mem_of_getElem? (vAt_of hv))).1)⟩
  exact tp_skein c 0 16 0 0 40 A 1 z (by omega) (by omega) (Nat.le_refl _) hw (by omega) (by omega) hA (fun v hv => absurd hv (by omega)) ho (by omega) (by omega)
theorem u_X13_conway_4 {x1 : Int32} {x2 : Int32} {x3 : Int32} {z : ow_MS} {Q : (Int32 × ow_MS) → Prop} (H : Tt (fun K k => qm_X13_conway_4 K (q_X13_conway K k) x1 x2 x3 z) Q) : Tt (fun K k => q_X13_conway K k 4 x1 x2 x3 z) Q := w_un (fun _ _ => rfl) H
theorem u_X13_conway_3 {x1 : Int32} {x2 : Int32} {x3 : Int32} {z : ow_MS} {Q : (Int32 × ow_MS) → Prop} (H : Tt (fun K k => qm_X13_conway_3 K (q_X13_conway K k) x1 x2 x3 z) Q) : Tt (fun K k => q_X13_conway K k 3 x1 x2 x3 z) Q := w_un (fun _ _ => rfl) H
theorem e_X13_conway {x1 : Int32} {x2 : Int32} {z : ow_MS} {Q : (Int32 × ow_MS) → Prop} (H : Tt (fun K k => q_X13_conway K k 0 x1 x2 0 z) Q) : Te (fun K => qe_X13_conway K x1 x2 z) Q := w_te H
theorem u_X13_conway_0 {x1 : Int32} {x2 : Int32} {x3 : Int32} {z : ow_MS} {Q : (Int32 × ow_MS) → Prop} (H : Tt (fun K k => qm_X13_conway_0 K (q_X13_conway K k) x1 x2 x3 z) Q) : Tt (fun K k => q_X13_conway K k 0 x1 x2 x3 z) Q := w_un (fun _ _ => rfl) H
theorem u_X13_conway_2 {x1 : Int32} {x2 : Int32} {x3 : Int32} {z : ow_MS} {Q : (Int32 × ow_MS) → Prop} (H : Tt (fun K k => qm_X13_conway_2 K (q_X13_conway K k) x1 x2 x3 z) Q) : Tt (fun K k => q_X13_conway K k 2 x1 x2 x3 z) Q := w_un (fun _ _ => rfl) H
theorem u_X13_conway_1 {x1 : Int32} {x2 : Int32} {x3 : Int32} {z : ow_MS} {Q : (Int32 × ow_MS) → Prop} (H : Tt (fun K k => qm_X13_conway_1 K (q_X13_conway K k) x1 x2 x3 z) Q) : Tt (fun K k => q_X13_conway K k 1 x1 x2 x3 z) Q := w_un (fun _ _ => rfl) H
theorem tp_conway {d k : Int32} (h : gI X z) : Te (fun K => qe_X13_conway K d k z) (fun r => gI X r.2) := by
  have h1 := gI_1 (c := 0) h
  have c4 : ∀ {x1 x2 : Int32} {y : ow_MS}, gI X y → Tt (fun K i => q_X13_conway K i 4 x1 x2 0 y) (fun r => gI X r.2) := by
    intro x1 x2 y hy
    refine u_X13_conway_4 ?_; unfold qm_X13_conway_4
    exact w_some hy
  have c3 : ∀ {x1 x2 : Int32} {y : ow_MS}, gI X y → Tt (fun K i => q_X13_conway K i 3 x1 x2 0 y) (fun r => gI X r.2) := by
    intro x1 x2 y hy
    refine u_X13_conway_3 ?_; unfold qm_X13_conway_3
    refine w_if (fun _ => c4 hy) (fun h0 => w_if (fun h9 => ?_) (fun _ => c4 hy))
    obtain ⟨a, ha, rfl⟩ := nI_of h0
    exact w_rdJ ml42 rfl ((nI_ltI (b := 40) ha (by omega)).mp h9) rfl (w_some hy)
  refine e_X13_conway ?_
  refine u_X13_conway_0 ?_; unfold qm_X13_conway_0
  refine w_wrF (w_has h1.2.1 (w_ifT rfl (w_fail h1)) (fun e A sg he hx hv hne => w_ifF (by decide) ?_))
  subst hx
  obtain ⟨⟨T1, k1⟩, kC⟩ := h1.2.2.2.2.1
  have hTl := hv.1.1
  rw [show (32 : Int32) * nI e = nI (32 * e) from pk_mul 32 e]
  refine w_cs1 (tr_same (o := 32 * e) (p := 0) ml12 ml43 (by omega) (by omega) (by omega) (by omega) hv.1 k1) (fun a y e9 => ?_)
  cases e9
  refine w_if (fun _ => ?_) (fun _ => c3 h1)
  obtain ⟨c, hok, hc⟩ := hv.2.1
  have lp2 : ∀ (dd i : Nat) (y1 y : ow_MS), i + dd = 32 → gI X y1 → y1.2.1 12 = (usF z 1 0).2.1 12 → fr (fun g => g = 43) y1 y → (∀ t, t < i → y.2.1 43 t = y1.2.1 12 (32 * e + t)) → Tt (fun K t => q_X13_conway K t 2 (nI e) k (nI i) y) (fun r => gI X r.2) := by
    intro dd
    induction dd with
    | zero =>
      intro i y1 y hi g1 e12 hf ht
      refine u_X13_conway_2 ?_; unfold qm_X13_conway_2
      refine w_leT (a := 32) (by omega) (by omega) (c3 (gI_cash hf (fun g hg => Or.inl (Or.inl hg)) ?_ g1))
      obtain ⟨-, ⟨T2, k2⟩, ⟨T3, k3⟩, ⟨T4, k4⟩, cc, k5, k6⟩ := g1.2.2.2.2.1
      have hrow : rc_At y1 12 (32 * e) (tk sg A) := by
        obtain ⟨a1, a2, a3, a4⟩ := hv.1
        exact ⟨a1, a2, by rw [e12]; exact a3, fun k t hk => by rw [e12]; exact a4 k t hk⟩
      exact ⟨⟨_, rc_cpy hrow (fun t h9 => ht t (by omega))⟩, ⟨T2, rc_fr hf (by decide) k2⟩, ⟨T3, rc_fr hf (by decide) k3⟩, ⟨T4, rc_fr hf (by decide) k4⟩, cc, k5, by rw [(hf 67 (by decide)).1]; exact k6⟩
    | succ dd ih =>
      intro i y1 y hi g1 e12 hf ht
      refine u_X13_conway_2 ?_; unfold qm_X13_conway_2
      rw [show (32 : Int32) * nI e = nI (32 * e) from pk_mul 32 e, nI_add, nI_1]
      refine w_leF (a := 32) (by omega) (by omega) (w_rdI ml12 rfl (by omega) rfl (w_wrI ml43 rfl (by omega) (ih (i + 1) y1 _ (by omega) g1 e12 (fr_I2 hf rfl) (fun t h9 => ?_))))
      by_cases hti : t = i
      · rw [hti, po_usI_at, (hf 12 (by decide)).2.1]
      · exact rd_ne hti (ht t (by omega))
  have lp1 : ∀ (dd i : Nat) (y : ow_MS), i + dd = 40 → fr (fun g => g = 42) (usF z 1 0) y → Tt (fun K t => q_X13_conway K t 1 (nI e) k (nI i) y) (fun r => gI X r.2) := by
    intro dd
    induction dd with
    | zero =>
      intro i y hi hf
      have g1 : gI X y := gI_fr hf (fun g hg => by rw [hg]; decide) h1
      have hvy : vRow y 12 (32 * e) A sg := ⟨rc_fr hf (by decide) hv.1, hv.2⟩
      refine u_X13_conway_1 ?_; unfold qm_X13_conway_1
      refine w_leT (a := 40) (by omega) (by omega) (w_rdN (i := 0) rfl (by omega) (w_cs0 (to_open (pnL (by omega)) he hvy) (fun z2 ⟨o2, f2⟩ => w_okZ (Or.inl rfl) (w_wrF ?_))))
      have hA : rn_At (usF z2 46 0) 4000 A [] := fr_At (fr_F (P := fun g => g = 46) rfl) (fun g hg => by omega) o2.1.1
      refine w_cs0 (tp_skein0 hok hc hv.2.2 hA) (fun z3 f3 => ?_)
      have hf3 : fr (fun g => 4000 ≤ g ∨ g = 46 ∨ g = 41 ∨ g = 42 ∨ g = 44) y z3 := fr_tr (fr_mono (fun g hg => by omega) f2) (fr_tr (fr_F (Or.inr (Or.inl rfl))) (fr_mono (fun g hg => by unfold skH at hg; omega) f3))
      have g3 : gI X z3 := gI_fr hf3 (fun g hg => by unfold per; omega) g1
      exact lp2 32 0 z3 z3 (by omega) g3 (by rw [(hf3 12 (by omega)).2.1, (hf 12 (by decide)).2.1]) fr_rf (fun t ht => absurd ht (by omega))
    | succ dd ih =>
      intro i y hi hf
      refine u_X13_conway_1 ?_; unfold qm_X13_conway_1
      rw [nI_1]
      exact w_leF (a := 40) (by omega) (by omega) (w_wrJ ml42 rfl (by omega) (ih (i + 1) _ (by omega) (fr_J2 hf rfl)))
  exact lp1 40 0 _ (by omega) fr_rf
theorem u_X13_two_4 {x1 : Int32} {x2 : Int32} {x3 : Int32} {x4 : Int32} {z : ow_MS} {Q : (Int32 × ow_MS) → Prop} (H : Tt (fun K k => qm_X13_two_4 K (q_X13_two K k) x1 x2 x3 x4 z) Q) : Tt (fun K k => q_X13_two K k 4 x1 x2 x3 x4 z) Q := w_un (fun _ _ => rfl) H
theorem u_X13_two_3 {x1 : Int32} {x2 : Int32} {x3 : Int32} {x4 : Int32} {z : ow_MS} {Q : (Int32 × ow_MS) → Prop} (H : Tt (fun K k => qm_X13_two_3 K (q_X13_two K k) x1 x2 x3 x4 z) Q) : Tt (fun K k => q_X13_two K k 3 x1 x2 x3 x4 z) Q := w_un (fun _ _ => rfl) H
theorem e_X13_two {x1 : Int32} {x2 : Int32} {x3 : Int32} {z : ow_MS} {Q : (Int32 × ow_MS) → Prop} (H : Tt (fun K k => q_X13_two K k 0 x1 x2 x3 0 z) Q) : Te (fun K => qe_X13_two K x1 x2 x3 z) Q := w_te H
theorem u_X13_two_0 {x1 : Int32} {x2 : Int32} {x3 : Int32} {x4 : Int32} {z : ow_MS} {Q : (Int32 × ow_MS) → Prop} (H : Tt (fun K k => qm_X13_two_0 K (q_X13_two K k) x1 x2 x3 x4 z) Q) : Tt (fun K k => q_X13_two K k 0 x1 x2 x3 x4 z) Q := w_un (fun _ _ => rfl) H
theorem u_X13_two_2 {x1 : Int32} {x2 : Int32} {x3 : Int32} {x4 : Int32} {z : ow_MS} {Q : (Int32 × ow_MS) → Prop} (H : Tt (fun K k => qm_X13_two_2 K (q_X13_two K k) x1 x2 x3 x4 z) Q) : Tt (fun K k => q_X13_two K k 2 x1 x2 x3 x4 z) Q := w_un (fun _ _ => rfl) H
theorem u_X13_two_1 {x1 : Int32} {x2 : Int32} {x3 : Int32} {x4 : Int32} {z : ow_MS} {Q : (Int32 × ow_MS) → Prop} (H : Tt (fun K k => qm_X13_two_1 K (q_X13_two K k) x1 x2 x3 x4 z) Q) : Tt (fun K k => q_X13_two K k 1 x1 x2 x3 x4 z) Q := w_un (fun _ _ => rfl) H
theorem tp_two {b k j : Int32} (h : gI X z) : Te (fun K => qe_X13_two K b k j z) (fun r => gI X r.2) := by
  have h1 := gI_1 (c := 0) h
  have c4 : ∀ {x1 x2 x3 : Int32} {y : ow_MS}, gI X y → Tt (fun K i => q_X13_two K i 4 x1 x2 x3 0 y) (fun r => gI X r.2) := by
    intro x1 x2 x3 y hy
    refine u_X13_two_4 ?_; unfold qm_X13_two_4
    exact w_some hy
  have c3 : ∀ {x1 x2 x3 : Int32} {y : ow_MS}, gI X y → Tt (fun K i => q_X13_two K i 3 x1 x2 x3 0 y) (fun r => gI X r.2) := by
    intro x1 x2 x3 y hy
    refine u_X13_two_3 ?_; unfold qm_X13_two_3
    refine w_if (fun _ => c4 hy) (fun h2 => w_if (fun _ => c4 hy) (fun h3 => w_if (fun _ => c4 hy) (fun h4 => w_if (fun h5 => ?_) (fun _ => c4 hy))))
    obtain ⟨a, ha, rfl⟩ := i32_rng (c := 64) (by omega) h2 h3
    obtain ⟨t, ht, rfl⟩ := i32_rng (x := x3) (c := 20) (by omega) h4 (fun h9 => by
      rw [Int32.lt_iff_toInt_lt] at h9
      rw [Int32.le_iff_toInt_le] at h5
      exact absurd h9 (Int.not_lt.mpr h5))
    have e1 : nI t - nI 20 + 20 = nI t := by
      show nI t - 20 + 20 = nI t
      exact Int32.sub_add_cancel _ _
    have e2 : (129 : Int32) * (nI t - nI 20 + 20) + (nI a - nI 64) + 64 = nI (129 * t + a) := by
      rw [e1, show (129 : Int32) * nI t = nI (129 * t) from pk_mul 129 t, i32_as, nI_add]
      show nI (129 * t + a) - 64 + 64 = _
      exact Int32.sub_add_cancel _ _
    rw [e2]
    exact w_rdJ ml44 rfl (by omega) rfl (w_some hy)
  refine e_X13_two ?_
  refine u_X13_two_0 ?_; unfold qm_X13_two_0
  refine w_wrF (w_hasB h1.2.2.2.2.2.1 (w_ifT rfl (w_fail h1)) (fun c n l hc hx hh => w_ifF (by decide) ?_))
  subst hx
  have p2 := hh.2.1
  have p3 := hh.2.2.1
  refine w_rdI ml95 rfl (by omega) hh.2.2.2.2.1 (w_le (b := 10) (by omega) (by omega) (fun h12 => w_cs0 (tp_close hc hh) (fun y ⟨⟨q, q1, q2⟩, q3, q4⟩ => ?_)) (fun _ => w_fail h1))
  have g1 : gI X y := gI_fr q4 (fun g hg => by unfold frK at hg; unfold per; omega) h1
  refine w_cs0 (tm_pack (h := 27) (o := 0) pn3 (by omega) ml27 (by omega) (by omega) (close_net (by omega) p2 q1 q2 q3)) (fun y2 ⟨r2, f2, _⟩ => ?_)
  have g2 : gI X y2 := gI_fr f2 (fun g hg => by unfold frQ at hg; unfold per; omega) g1
  obtain ⟨A, sg, hv⟩ := r2
  obtain ⟨_, ⟨T1, k1⟩, kC⟩ := g2.2.2.2.2.1
  have hTl := hv.1.1
  refine w_cs1 (tr_same (o := 0) (p := 0) ml27 ml45 (by omega) (by omega) (by omega) (by omega) hv.1 k1) (fun a y9 e9 => ?_)
  cases e9
  refine w_if (fun _ => ?_) (fun _ => c3 g2)
  obtain ⟨cc, hok, hcc⟩ := hv.2.1
  have lp2 : ∀ (dd i : Nat) (y1 y : ow_MS), i + dd = 32 → gI X y1 → y1.2.1 27 = y2.2.1 27 → fr (fun g => g = 45) y1 y → (∀ t, t < i → y.2.1 45 t = y1.2.1 27 (0 + t)) → Tt (fun K t => q_X13_two K t 2 (nI c) k j (nI i) y) (fun r => gI X r.2) := by
    intro dd
    induction dd with
    | zero =>
      intro i y1 y hi g1 e12 hf ht
      refine u_X13_two_2 ?_; unfold qm_X13_two_2
      refine w_leT (a := 32) (by omega) (by omega) (c3 (gI_cash hf (fun g hg => Or.inl (Or.inr (Or.inl hg))) ?_ g1))
      obtain ⟨⟨T2, k2⟩, -, ⟨T3, k3⟩, ⟨T4, k4⟩, cc, k5, k6⟩ := g1.2.2.2.2.1
      have hrow : rc_At y1 27 0 (tk sg A) := by
        obtain ⟨a1, a2, a3, a4⟩ := hv.1
        exact ⟨a1, a2, by rw [e12]; exact a3, fun k t hk => by rw [e12]; exact a4 k t hk⟩
      exact ⟨⟨T2, rc_fr hf (by decide) k2⟩, ⟨_, rc_cpy hrow (fun t h9 => ht t (by omega))⟩, ⟨T3, rc_fr hf (by decide) k3⟩, ⟨T4, rc_fr hf (by decide) k4⟩, cc, k5, by rw [(hf 67 (by decide)).1]; exact k6⟩
    | succ dd ih =>
      intro i y1 y hi g1 e12 hf ht
      refine u_X13_two_2 ?_; unfold qm_X13_two_2
      rw [nI_1]
      refine w_leF (a := 32) (by omega) (by omega) (w_rdI ml27 rfl (by omega) rfl (w_wrI ml45 rfl (by omega) (ih (i + 1) y1 _ (by omega) g1 e12 (fr_I2 hf rfl) (fun t h9 => ?_))))
      by_cases hti : t = i
      · rw [hti, po_usI_at, (hf 27 (by decide)).2.1, Nat.zero_add]
      · exact rd_ne hti (ht t (by omega))
  have lp1 : ∀ (dd i : Nat) (y : ow_MS), i + dd = 5289 → fr (fun g => g = 44) y2 y → Tt (fun K t => q_X13_two K t 1 (nI c) k j (nI i) y) (fun r => gI X r.2) := by
    intro dd
    induction dd with
    | zero =>
      intro i y hi hf
      have g3 : gI X y := gI_fr hf (fun g hg => by rw [hg]; decide) g2
      have hvy : rc_At y 27 0 (tk sg A) := rc_fr hf (by decide) hv.1
      have hlA := okF_len hok
      have hC := hv.2.2
      refine u_X13_two_1 ?_; unfold qm_X13_two_1
      refine w_leT (a := 5289) (by omega) (by omega) (w_rdN (i := 0) rfl (by omega) (w_cs0 (tr_unpack (o := 0) (pnL (by omega)) (by omega) ml27 (by omega) (by omega) (by omega) (by omega) (fun p hp => by have := (hok.2 p).mp hp; omega) hvy) (fun z2 ⟨hA, _, f4⟩ => w_okZ (Or.inr rfl) (w_wrF ?_))))
      have hA2 : rn_At (usF z2 46 1) 4000 A [] := fr_At (fr_F (P := fun g => g = 46) rfl) (fun g hg => by omega) hA
      refine w_cs0 (tp_skein0 hok hcc hC hA2) (fun z3 f3 => ?_)
      have hf3 : fr (fun g => 4000 ≤ g ∨ g = 46 ∨ g = 41 ∨ g = 42 ∨ g = 44) y z3 := fr_tr (fr_mono (fun g hg => by omega) f4) (fr_tr (fr_F (Or.inr (Or.inl rfl))) (fr_mono (fun g hg => by unfold skH at hg; omega) f3))
      exact lp2 32 0 z3 z3 (by omega) (gI_fr hf3 (fun g hg => by unfold per; omega) g3) (by rw [(hf3 27 (by omega)).2.1, (hf 27 (by decide)).2.1]) fr_rf (fun t ht => absurd ht (by omega))
    | succ dd ih =>
      intro i y hi hf
      refine u_X13_two_1 ?_; unfold qm_X13_two_1
      rw [nI_1]
      exact w_leF (a := 5289) (by omega) (by omega) (w_wrJ ml44 rfl (by omega) (ih (i + 1) _ (by omega) (fr_J2 hf rfl)))
  exact lp1 5289 0 _ (by omega) fr_rf
end CONW
