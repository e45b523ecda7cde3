section
/-! 99zzzj.conway -/
/-! conway and two have an answer -/
theorem i32_rng {x : Int32} {c : Nat} (hc : c ≤ 1000) (h1 : ¬ x < -(nI c)) (h2 : ¬ nI c < x) : ∃ a, a ≤ 2 * c ∧ x = nI a - nI c := by
  have e1 : (nI c).toInt = c := nI_toInt (by omega)
  have e2 : (-(nI c)).toInt = -(c : Int) := by
    rw [Int32.toInt_neg, e1]
    exact Int.bmod_eq_of_le (by omega) (by omega)
  have g1 : -(c : Int) ≤ x.toInt := by
    rw [Int32.lt_iff_toInt_lt, e2] at h1
    omega
  have g2 : x.toInt ≤ (c : Int) := by
    rw [Int32.lt_iff_toInt_lt, e1] at h2
    omega
  refine ⟨(x.toInt + c).toNat, by omega, ?_⟩
  apply Int32.toInt_inj.mp
  have e3 : (nI (x.toInt + c).toNat).toInt = x.toInt + c := by
    rw [nI_toInt (by omega)]
    omega
  rw [Int32.toInt_sub, e1, e3]
  rw [Int.bmod_eq_of_le (by omega) (by omega)]
  omega
section CONW
variable {X : (Nat → Nat → Int32) → Prop} {z : ow_MS}
theorem gI_cash {P : Nat → Prop} {z z1 : ow_MS} (hf : fr P z z1) (hP : ∀ g, P g → (g = 43 ∨ g = 45 ∨ g = 50 ∨ g = 65 ∨ g = 67) ∨ ¬ per g) (hr : gCash z1) (h : gI X z) : gI X z1 := by
  obtain ⟨h1, h2, h3, h4, h5, h6, h7⟩ := h
  have no : ∀ g, per g → ¬ (g = 43 ∨ g = 45 ∨ g = 50 ∨ g = 65 ∨ g = 67) → ¬ P g := fun g hg hn h9 => (hP g h9).elim hn (fun h8 => h8 hg)
  exact ⟨gTape_fr hf (no 11 (by decide) (by decide)) h1, gRows_fr hf (no 12 (by decide) (by decide)) h2, gList_fr hf (no 20 (by decide) (by decide)) (no 21 (by decide) (by decide)) (no 22 (by decide) (by decide)) h3, gSum_fr hf (no 35 (by decide) (by decide)) (no 39 (by decide) (by decide)) (no 36 (by decide) (by decide)) h4, hr, gBrs_fr hf (no 94 (by decide) (by decide)) (no 95 (by decide) (by decide)) (no 96 (by decide) (by decide)) h6, gX_fr hf (fun g hg h9 => no g (by unfold per; omega) (by omega) hg) h7⟩
/-- a row of 32 that is copied -/
theorem rc_cpy {z z1 : ow_MS} {h o g : Nat} {T : List Nat} (hr : rc_At z h o T) (he : ∀ i, i < 32 → z1.2.1 g i = z.2.1 h (o + i)) : rc_At z1 g 0 T := by
  obtain ⟨h1, h2, h3, h4⟩ := hr
  refine ⟨h1, h2, by rw [he 0 (by omega)]; exact h3, fun k t hk => ?_⟩
  have := (List.getElem?_eq_some_iff.mp hk).1
  rw [Nat.zero_add, he (k + 1) (by omega)]
  exact h4 k t hk
theorem tp_skein0 {A : rn_L} {c : Nat} (hok : okF A.flatten c) (hc : c ≤ 12) (hC : A.length ≤ 6) (hA : rn_At z 4000 A []) : Te (fun K => qe_X13_skein K 0 1 0 0 z) (fun z1 => fr (skH 0) z z1) := by
  have hl := okF_len hok
  have hw : wkF A.flatten := okF_wk (by omega) hok
  have ho : ouT A 0 c := ⟨List.range c, by rw [List.length_range]; exact Nat.le_refl _, fun v hv => Or.inr (List.mem_range.mpr ((hok.2 _).mp (List.mem_of_getElem? (vAt_of hv))).1)⟩
  exact tp_skein c 0 16 0 0 40 A 1 z (by omega) (by omega) (Nat.le_refl _) hw (by omega) (by omega) hA (fun v hv => absurd hv (by omega)) ho (by omega) (by omega)
theorem u_X13_conway_4 {x1 : Int32} {x2 : Int32} {x3 : Int32} {z : ow_MS} {Q : (Int32 × ow_MS) → Prop} (H : Tt (fun K k => qm_X13_conway_4 K (q_X13_conway K k) x1 x2 x3 z) Q) : Tt (fun K k => q_X13_conway K k 4 x1 x2 x3 z) Q := w_un (fun _ _ => rfl) H
theorem u_X13_conway_3 {x1 : Int32} {x2 : Int32} {x3 : Int32} {z : ow_MS} {Q : (Int32 × ow_MS) → Prop} (H : Tt (fun K k => qm_X13_conway_3 K (q_X13_conway K k) x1 x2 x3 z) Q) : Tt (fun K k => q_X13_conway K k 3 x1 x2 x3 z) Q := w_un (fun _ _ => rfl) H
theorem e_X13_conway {x1 : Int32} {x2 : Int32} {z : ow_MS} {Q : (Int32 × ow_MS) → Prop} (H : Tt (fun K k => q_X13_conway K k 0 x1 x2 0 z) Q) : Te (fun K => qe_X13_conway K x1 x2 z) Q := w_te H
theorem u_X13_conway_0 {x1 : Int32} {x2 : Int32} {x3 : Int32} {z : ow_MS} {Q : (Int32 × ow_MS) → Prop} (H : Tt (fun K k => qm_X13_conway_0 K (q_X13_conway K k) x1 x2 x3 z) Q) : Tt (fun K k => q_X13_conway K k 0 x1 x2 x3 z) Q := w_un (fun _ _ => rfl) H
theorem u_X13_conway_2 {x1 : Int32} {x2 : Int32} {x3 : Int32} {z : ow_MS} {Q : (Int32 × ow_MS) → Prop} (H : Tt (fun K k => qm_X13_conway_2 K (q_X13_conway K k) x1 x2 x3 z) Q) : Tt (fun K k => q_X13_conway K k 2 x1 x2 x3 z) Q := w_un (fun _ _ => rfl) H
theorem u_X13_conway_1 {x1 : Int32} {x2 : Int32} {x3 : Int32} {z : ow_MS} {Q : (Int32 × ow_MS) → Prop} (H : Tt (fun K k => qm_X13_conway_1 K (q_X13_conway K k) x1 x2 x3 z) Q) : Tt (fun K k => q_X13_conway K k 1 x1 x2 x3 z) Q := w_un (fun _ _ => rfl) H
theorem tp_conway {d k : Int32} (h : gI X z) : Te (fun K => qe_X13_conway K d k z) (fun r => gI X r.2) := by
  have h1 := gI_1 (c := 0) h
  have c4 : ∀ {x1 x2 : Int32} {y : ow_MS}, gI X y → Tt (fun K i => q_X13_conway K i 4 x1 x2 0 y) (fun r => gI X r.2) := by
    intro x1 x2 y hy
    refine u_X13_conway_4 ?_; unfold qm_X13_conway_4
    exact w_some hy
  have c3 : ∀ {x1 x2 : Int32} {y : ow_MS}, gI X y → Tt (fun K i => q_X13_conway K i 3 x1 x2 0 y) (fun r => gI X r.2) := by
    intro x1 x2 y hy
    refine u_X13_conway_3 ?_; unfold qm_X13_conway_3
    refine w_if (fun _ => c4 hy) (fun h0 => w_if (fun h9 => ?_) (fun _ => c4 hy))
    obtain ⟨a, ha, rfl⟩ := nI_of h0
    exact w_rdJ ml42 rfl ((nI_ltI (b := 40) ha (by omega)).mp h9) rfl (w_some hy)
  refine e_X13_conway ?_
  refine u_X13_conway_0 ?_; unfold qm_X13_conway_0
  refine w_wrF (w_has h1.2.1 (w_ifT rfl (w_fail h1)) (fun e A sg he hx hv hne => w_ifF (by decide) ?_))
  subst hx
  obtain ⟨⟨T1, k1⟩, kC⟩ := h1.2.2.2.2.1
  have hTl := hv.1.1
  rw [show (32 : Int32) * nI e = nI (32 * e) from pk_mul 32 e]
  refine w_cs1 (tr_same (o := 32 * e) (p := 0) ml12 ml43 (by omega) (by omega) (by omega) (by omega) hv.1 k1) (fun a y e9 => ?_)
  cases e9
  refine w_if (fun _ => ?_) (fun _ => c3 h1)
  obtain ⟨c, hok, hc⟩ := hv.2.1
  have lp2 : ∀ (dd i : Nat) (y1 y : ow_MS), i + dd = 32 → gI X y1 → y1.2.1 12 = (usF z 1 0).2.1 12 → fr (fun g => g = 43) y1 y → (∀ t, t < i → y.2.1 43 t = y1.2.1 12 (32 * e + t)) → Tt (fun K t => q_X13_conway K t 2 (nI e) k (nI i) y) (fun r => gI X r.2) := by
    intro dd
    induction dd with
    | zero =>
      intro i y1 y hi g1 e12 hf ht
      refine u_X13_conway_2 ?_; unfold qm_X13_conway_2
      refine w_leT (a := 32) (by omega) (by omega) (c3 (gI_cash hf (fun g hg => Or.inl (Or.inl hg)) ?_ g1))
      obtain ⟨-, ⟨T2, k2⟩, ⟨T3, k3⟩, ⟨T4, k4⟩, cc, k5, k6⟩ := g1.2.2.2.2.1
      have hrow : rc_At y1 12 (32 * e) (tk sg A) := by
        obtain ⟨a1, a2, a3, a4⟩ := hv.1
        exact ⟨a1, a2, by rw [e12]; exact a3, fun k t hk => by rw [e12]; exact a4 k t hk⟩
      exact ⟨⟨_, rc_cpy hrow (fun t h9 => ht t (by omega))⟩, ⟨T2, rc_fr hf (by decide) k2⟩, ⟨T3, rc_fr hf (by decide) k3⟩, ⟨T4, rc_fr hf (by decide) k4⟩, cc, k5, by rw [(hf 67 (by decide)).1]; exact k6⟩
    | succ dd ih =>
      intro i y1 y hi g1 e12 hf ht
      refine u_X13_conway_2 ?_; unfold qm_X13_conway_2
      rw [show (32 : Int32) * nI e = nI (32 * e) from pk_mul 32 e, nI_add, nI_1]
      refine w_leF (a := 32) (by omega) (by omega) (w_rdI ml12 rfl (by omega) rfl (w_wrI ml43 rfl (by omega) (ih (i + 1) y1 _ (by omega) g1 e12 (fr_I2 hf rfl) (fun t h9 => ?_))))
      by_cases hti : t = i
      · rw [hti, po_usI_at, (hf 12 (by decide)).2.1]
      · exact rd_ne hti (ht t (by omega))
  have lp1 : ∀ (dd i : Nat) (y : ow_MS), i + dd = 40 → fr (fun g => g = 42) (usF z 1 0) y → Tt (fun K t => q_X13_conway K t 1 (nI e) k (nI i) y) (fun r => gI X r.2) := by
    intro dd
    induction dd with
    | zero =>
      intro i y hi hf
      have g1 : gI X y := gI_fr hf (fun g hg => by rw [hg]; decide) h1
      have hvy : vRow y 12 (32 * e) A sg := ⟨rc_fr hf (by decide) hv.1, hv.2⟩
      refine u_X13_conway_1 ?_; unfold qm_X13_conway_1
      refine w_leT (a := 40) (by omega) (by omega) (w_rdN (i := 0) rfl (by omega) (w_cs0 (to_open (pnL (by omega)) he hvy) (fun z2 ⟨o2, f2⟩ => w_okZ (Or.inl rfl) (w_wrF ?_))))
      have hA : rn_At (usF z2 46 0) 4000 A [] := fr_At (fr_F (P := fun g => g = 46) rfl) (fun g hg => by omega) o2.1.1
      refine w_cs0 (tp_skein0 hok hc hv.2.2 hA) (fun z3 f3 => ?_)
      have hf3 : fr (fun g => 4000 ≤ g ∨ g = 46 ∨ g = 41 ∨ g = 42 ∨ g = 44) y z3 := fr_tr (fr_mono (fun g hg => by omega) f2) (fr_tr (fr_F (Or.inr (Or.inl rfl))) (fr_mono (fun g hg => by unfold skH at hg; omega) f3))
      have g3 : gI X z3 := gI_fr hf3 (fun g hg => by unfold per; omega) g1
      exact lp2 32 0 z3 z3 (by omega) g3 (by rw [(hf3 12 (by omega)).2.1, (hf 12 (by decide)).2.1]) fr_rf (fun t ht => absurd ht (by omega))
    | succ dd ih =>
      intro i y hi hf
      refine u_X13_conway_1 ?_; unfold qm_X13_conway_1
      rw [nI_1]
      exact w_leF (a := 40) (by omega) (by omega) (w_wrJ ml42 rfl (by omega) (ih (i + 1) _ (by omega) (fr_J2 hf rfl)))
  exact lp1 40 0 _ (by omega) fr_rf
theorem u_X13_two_4 {x1 : Int32} {x2 : Int32} {x3 : Int32} {x4 : Int32} {z : ow_MS} {Q : (Int32 × ow_MS) → Prop} (H : Tt (fun K k => qm_X13_two_4 K (q_X13_two K k) x1 x2 x3 x4 z) Q) : Tt (fun K k => q_X13_two K k 4 x1 x2 x3 x4 z) Q := w_un (fun _ _ => rfl) H
theorem u_X13_two_3 {x1 : Int32} {x2 : Int32} {x3 : Int32} {x4 : Int32} {z : ow_MS} {Q : (Int32 × ow_MS) → Prop} (H : Tt (fun K k => qm_X13_two_3 K (q_X13_two K k) x1 x2 x3 x4 z) Q) : Tt (fun K k => q_X13_two K k 3 x1 x2 x3 x4 z) Q := w_un (fun _ _ => rfl) H
theorem e_X13_two {x1 : Int32} {x2 : Int32} {x3 : Int32} {z : ow_MS} {Q : (Int32 × ow_MS) → Prop} (H : Tt (fun K k => q_X13_two K k 0 x1 x2 x3 0 z) Q) : Te (fun K => qe_X13_two K x1 x2 x3 z) Q := w_te H
theorem u_X13_two_0 {x1 : Int32} {x2 : Int32} {x3 : Int32} {x4 : Int32} {z : ow_MS} {Q : (Int32 × ow_MS) → Prop} (H : Tt (fun K k => qm_X13_two_0 K (q_X13_two K k) x1 x2 x3 x4 z) Q) : Tt (fun K k => q_X13_two K k 0 x1 x2 x3 x4 z) Q := w_un (fun _ _ => rfl) H
theorem u_X13_two_2 {x1 : Int32} {x2 : Int32} {x3 : Int32} {x4 : Int32} {z : ow_MS} {Q : (Int32 × ow_MS) → Prop} (H : Tt (fun K k => qm_X13_two_2 K (q_X13_two K k) x1 x2 x3 x4 z) Q) : Tt (fun K k => q_X13_two K k 2 x1 x2 x3 x4 z) Q := w_un (fun _ _ => rfl) H
theorem u_X13_two_1 {x1 : Int32} {x2 : Int32} {x3 : Int32} {x4 : Int32} {z : ow_MS} {Q : (Int32 × ow_MS) → Prop} (H : Tt (fun K k => qm_X13_two_1 K (q_X13_two K k) x1 x2 x3 x4 z) Q) : Tt (fun K k => q_X13_two K k 1 x1 x2 x3 x4 z) Q := w_un (fun _ _ => rfl) H
theorem tp_two {b k j : Int32} (h : gI X z) : Te (fun K => qe_X13_two K b k j z) (fun r => gI X r.2) := by
  have h1 := gI_1 (c := 0) h
  have c4 : ∀ {x1 x2 x3 : Int32} {y : ow_MS}, gI X y → Tt (fun K i => q_X13_two K i 4 x1 x2 x3 0 y) (fun r => gI X r.2) := by
    intro x1 x2 x3 y hy
    refine u_X13_two_4 ?_; unfold qm_X13_two_4
    exact w_some hy
  have c3 : ∀ {x1 x2 x3 : Int32} {y : ow_MS}, gI X y → Tt (fun K i => q_X13_two K i 3 x1 x2 x3 0 y) (fun r => gI X r.2) := by
    intro x1 x2 x3 y hy
    refine u_X13_two_3 ?_; unfold qm_X13_two_3
    refine w_if (fun _ => c4 hy) (fun h2 => w_if (fun _ => c4 hy) (fun h3 => w_if (fun _ => c4 hy) (fun h4 => w_if (fun h5 => ?_) (fun _ => c4 hy))))
    obtain ⟨a, ha, rfl⟩ := i32_rng (c := 64) (by omega) h2 h3
    obtain ⟨t, ht, rfl⟩ := i32_rng (x := x3) (c := 20) (by omega) h4 (fun h9 => by
      rw [Int32.lt_iff_toInt_lt] at h9
      rw [Int32.le_iff_toInt_le] at h5
      exact absurd h9 (Int.not_lt.mpr h5))
    have e1 : nI t - nI 20 + 20 = nI t := by
      show nI t - 20 + 20 = nI t
      exact Int32.sub_add_cancel _ _
    have e2 : (129 : Int32) * (nI t - nI 20 + 20) + (nI a - nI 64) + 64 = nI (129 * t + a) := by
      rw [e1, show (129 : Int32) * nI t = nI (129 * t) from pk_mul 129 t, i32_as, nI_add]
      show nI (129 * t + a) - 64 + 64 = _
      exact Int32.sub_add_cancel _ _
    rw [e2]
    exact w_rdJ ml44 rfl (by omega) rfl (w_some hy)
  refine e_X13_two ?_
  refine u_X13_two_0 ?_; unfold qm_X13_two_0
  refine w_wrF (w_hasB h1.2.2.2.2.2.1 (w_ifT rfl (w_fail h1)) (fun c n l hc hx hh => w_ifF (by decide) ?_))
  subst hx
  have p2 := hh.2.1
  have p3 := hh.2.2.1
  refine w_rdI ml95 rfl (by omega) hh.2.2.2.2.1 (w_le (b := 10) (by omega) (by omega) (fun h12 => w_cs0 (tp_close hc hh) (fun y ⟨⟨q, q1, q2⟩, q3, q4⟩ => ?_)) (fun _ => w_fail h1))
  have g1 : gI X y := gI_fr q4 (fun g hg => by unfold frK at hg; unfold per; omega) h1
  refine w_cs0 (tm_pack (h := 27) (o := 0) pn3 (by omega) ml27 (by omega) (by omega) (close_net (by omega) p2 q1 q2 q3)) (fun y2 ⟨r2, f2, _⟩ => ?_)
  have g2 : gI X y2 := gI_fr f2 (fun g hg => by unfold frQ at hg; unfold per; omega) g1
  obtain ⟨A, sg, hv⟩ := r2
  obtain ⟨_, ⟨T1, k1⟩, kC⟩ := g2.2.2.2.2.1
  have hTl := hv.1.1
  refine w_cs1 (tr_same (o := 0) (p := 0) ml27 ml45 (by omega) (by omega) (by omega) (by omega) hv.1 k1) (fun a y9 e9 => ?_)
  cases e9
  refine w_if (fun _ => ?_) (fun _ => c3 g2)
  obtain ⟨cc, hok, hcc⟩ := hv.2.1
  have lp2 : ∀ (dd i : Nat) (y1 y : ow_MS), i + dd = 32 → gI X y1 → y1.2.1 27 = y2.2.1 27 → fr (fun g => g = 45) y1 y → (∀ t, t < i → y.2.1 45 t = y1.2.1 27 (0 + t)) → Tt (fun K t => q_X13_two K t 2 (nI c) k j (nI i) y) (fun r => gI X r.2) := by
    intro dd
    induction dd with
    | zero =>
      intro i y1 y hi g1 e12 hf ht
      refine u_X13_two_2 ?_; unfold qm_X13_two_2
      refine w_leT (a := 32) (by omega) (by omega) (c3 (gI_cash hf (fun g hg => Or.inl (Or.inr (Or.inl hg))) ?_ g1))
      obtain ⟨⟨T2, k2⟩, -, ⟨T3, k3⟩, ⟨T4, k4⟩, cc, k5, k6⟩ := g1.2.2.2.2.1
      have hrow : rc_At y1 27 0 (tk sg A) := by
        obtain ⟨a1, a2, a3, a4⟩ := hv.1
        exact ⟨a1, a2, by rw [e12]; exact a3, fun k t hk => by rw [e12]; exact a4 k t hk⟩
      exact ⟨⟨T2, rc_fr hf (by decide) k2⟩, ⟨_, rc_cpy hrow (fun t h9 => ht t (by omega))⟩, ⟨T3, rc_fr hf (by decide) k3⟩, ⟨T4, rc_fr hf (by decide) k4⟩, cc, k5, by rw [(hf 67 (by decide)).1]; exact k6⟩
    | succ dd ih =>
      intro i y1 y hi g1 e12 hf ht
      refine u_X13_two_2 ?_; unfold qm_X13_two_2
      rw [nI_1]
      refine w_leF (a := 32) (by omega) (by omega) (w_rdI ml27 rfl (by omega) rfl (w_wrI ml45 rfl (by omega) (ih (i + 1) y1 _ (by omega) g1 e12 (fr_I2 hf rfl) (fun t h9 => ?_))))
      by_cases hti : t = i
      · rw [hti, po_usI_at, (hf 27 (by decide)).2.1, Nat.zero_add]
      · exact rd_ne hti (ht t (by omega))
  have lp1 : ∀ (dd i : Nat) (y : ow_MS), i + dd = 5289 → fr (fun g => g = 44) y2 y → Tt (fun K t => q_X13_two K t 1 (nI c) k j (nI i) y) (fun r => gI X r.2) := by
    intro dd
    induction dd with
    | zero =>
      intro i y hi hf
      have g3 : gI X y := gI_fr hf (fun g hg => by rw [hg]; decide) g2
      have hvy : rc_At y 27 0 (tk sg A) := rc_fr hf (by decide) hv.1
      have hlA := okF_len hok
      have hC := hv.2.2
      refine u_X13_two_1 ?_; unfold qm_X13_two_1
      refine w_leT (a := 5289) (by omega) (by omega) (w_rdN (i := 0) rfl (by omega) (w_cs0 (tr_unpack (o := 0) (pnL (by omega)) (by omega) ml27 (by omega) (by omega) (by omega) (by omega) (fun p hp => by have := (hok.2 p).mp hp; omega) hvy) (fun z2 ⟨hA, _, f4⟩ => w_okZ (Or.inr rfl) (w_wrF ?_))))
      have hA2 : rn_At (usF z2 46 1) 4000 A [] := fr_At (fr_F (P := fun g => g = 46) rfl) (fun g hg => by omega) hA
      refine w_cs0 (tp_skein0 hok hcc hC hA2) (fun z3 f3 => ?_)
      have hf3 : fr (fun g => 4000 ≤ g ∨ g = 46 ∨ g = 41 ∨ g = 42 ∨ g = 44) y z3 := fr_tr (fr_mono (fun g hg => by omega) f4) (fr_tr (fr_F (Or.inr (Or.inl rfl))) (fr_mono (fun g hg => by unfold skH at hg; omega) f3))
      exact lp2 32 0 z3 z3 (by omega) (gI_fr hf3 (fun g hg => by unfold per; omega) g3) (by rw [(hf3 27 (by omega)).2.1, (hf 27 (by decide)).2.1]) fr_rf (fun t ht => absurd ht (by omega))
    | succ dd ih =>
      intro i y hi hf
      refine u_X13_two_1 ?_; unfold qm_X13_two_1
      rw [nI_1]
      exact w_leF (a := 5289) (by omega) (by omega) (w_wrJ ml44 rfl (by omega) (ih (i + 1) _ (by omega) (fr_J2 hf rfl)))
  exact lp1 5289 0 _ (by omega) fr_rf
end CONW
end
section
/-! 99zzzk.uf -/
/-! signed numbers -/
abbrev iI (i : Int) : Int32 := Int32.ofInt i
theorem nI_iI (a : Nat) : nI a = iI (a : Int) := (Int32.ofInt_eq_ofNat).symm
theorem iI_add (a b : Int) : iI a + iI b = iI (a + b) := (Int32.ofInt_add a b).symm
theorem iI_sub (a b : Int) : iI a - iI b = iI (a - b) := (Int32.ofInt_sub a b).symm
theorem iI_mul (a b : Int) : iI a * iI b = iI (a * b) := (Int32.ofInt_mul a b).symm
theorem iI_nI {i : Int} {a : Nat} (h : i = (a : Int)) : iI i = nI a := by rw [h, nI_iI]
theorem iI_toInt {i : Int} (h1 : -(2 ^ 31 : Int) ≤ i) (h2 : i < 2 ^ 31) : (iI i).toInt = i := by
  rw [Int32.toInt_ofInt]
  exact Int.bmod_eq_of_le (by show -((4294967296 : Nat) : Int) / 2 ≤ i; omega) (by show i < ((4294967296 : Nat) + 1 : Int) / 2; omega)
theorem iI_le {a b : Int} (h1 : -(2 ^ 31 : Int) ≤ a) (h2 : a < 2 ^ 31) (h3 : -(2 ^ 31 : Int) ≤ b) (h4 : b < 2 ^ 31) : iI a ≤ iI b ↔ a ≤ b := by
  rw [Int32.le_iff_toInt_le, iI_toInt h1 h2, iI_toInt h3 h4]
theorem iI_lt {a b : Int} (h1 : -(2 ^ 31 : Int) ≤ a) (h2 : a < 2 ^ 31) (h3 : -(2 ^ 31 : Int) ≤ b) (h4 : b < 2 ^ 31) : iI a < iI b ↔ a < b := by
  rw [Int32.lt_iff_toInt_lt, iI_toInt h1 h2, iI_toInt h3 h4]
/-! union and find -/
def rtF (p : Nat → Nat) : Nat → Nat → Nat
  | 0, g => g
  | k + 1, g => if p g = g then g else rtF p k (p g)
def rt (p : Nat → Nat) (g : Nat) : Nat := rtF p g g
def dn (p : Nat → Nat) : Prop := ∀ g, p g ≤ g
theorem rtF_eq {p : Nat → Nat} (hp : dn p) : ∀ (g k j : Nat), g ≤ k → g ≤ j → rtF p k g = rtF p j g := by
  intro g
  induction g using Nat.strongRecOn with
  | ind g ih =>
  intro k j hk hj
  have h1 := hp g
  cases k with
  | zero =>
    have hg : g = 0 := by omega
    subst hg
    cases j with
    | zero => rfl
    | succ j => 
      show 0 = if p 0 = 0 then 0 else rtF p j (p 0)
      rw [if_pos (by omega)]
  | succ k =>
    cases j with
    | zero =>
      have hg : g = 0 := by omega
      subst hg
      show (if p 0 = 0 then 0 else rtF p k (p 0)) = 0
      rw [if_pos (by omega)]
    | succ j =>
      show (if p g = g then g else rtF p k (p g)) = if p g = g then g else rtF p j (p g)
      by_cases hg : p g = g
      · rw [if_pos hg, if_pos hg]
      · rw [if_neg hg, if_neg hg]
        exact ih (p g) (by omega) k j (by omega) (by omega)
theorem rt_root {p : Nat → Nat} {g : Nat} (h : p g = g) : rt p g = g := by
  unfold rt
  cases g with
  | zero => rfl
  | succ g => 
    show (if p (g + 1) = g + 1 then g + 1 else _) = g + 1
    rw [if_pos h]
theorem rt_step {p : Nat → Nat} {g : Nat} (hp : dn p) (h : p g ≠ g) : rt p g = rt p (p g) := by
  have h1 := hp g
  unfold rt
  cases g with
  | zero => omega
  | succ g =>
    show (if p (g + 1) = g + 1 then g + 1 else rtF p g (p (g + 1))) = _
    rw [if_neg h]
    exact rtF_eq hp _ _ _ (by omega) (Nat.le_refl _)
theorem rt_in {p : Nat → Nat} (hp : dn p) : ∀ g, p (rt p g) = rt p g ∧ rt p g ≤ g := by
  intro g
  induction g using Nat.strongRecOn with
  | ind g ih =>
  by_cases h : p g = g
  · rw [rt_root h]
    exact ⟨h, Nat.le_refl _⟩
  · have h1 := hp g
    rw [rt_step hp h]
    have := ih (p g) (by omega)
    exact ⟨this.1, by omega⟩
def pup (p : Nat → Nat) (m r : Nat) : Nat → Nat := fun x => if x = m then r else p x
theorem rt_pup {p : Nat → Nat} {m r : Nat} (hp : dn p) (hm : p m = m) (hr : p r = r) (hlt : r < m) : dn (pup p m r) ∧ ∀ g, rt (pup p m r) g = if rt p g = m then r else rt p g := by
  have hd : dn (pup p m r) := fun g => by
    unfold pup
    by_cases h : g = m
    · rw [if_pos h]; omega
    · rw [if_neg h]; exact hp g
  refine ⟨hd, fun g => ?_⟩
  induction g using Nat.strongRecOn with
  | ind g ih =>
  by_cases h : p g = g
  · rw [rt_root h]
    by_cases hg : g = m
    · rw [if_pos hg]
      have e1 : pup p m r g = r := if_pos hg
      rw [rt_step hd (by rw [e1]; omega), e1]
      refine rt_root ?_
      unfold pup
      rw [if_neg (by omega)]
      exact hr
    · rw [if_neg hg]
      refine rt_root ?_
      unfold pup
      rw [if_neg hg]
      exact h
  · have hg : g ≠ m := fun e => h (by rw [e]; exact hm)
    have e1 : pup p m r g = p g := if_neg hg
    have h1 := hp g
    rw [rt_step hd (by rw [e1]; exact h), e1, rt_step hp h]
    exact ih (p g) (by omega)
/-- two are united: the greater root goes under the lesser one -/
def un (p : Nat → Nat) (g h : Nat) : Nat → Nat := if rt p h ≤ rt p g then pup p (rt p g) (rt p h) else pup p (rt p h) (rt p g)
theorem un_same {p : Nat → Nat} {m : Nat} (hm : p m = m) : pup p m m = p := by
  funext x
  unfold pup
  by_cases h : x = m
  · rw [if_pos h, h, hm]
  · rw [if_neg h]
theorem un_dn {p : Nat → Nat} {g h : Nat} (hp : dn p) : dn (un p g h) := by
  obtain ⟨g1, -⟩ := rt_in hp g
  obtain ⟨h1, -⟩ := rt_in hp h
  unfold un
  by_cases h9 : rt p h ≤ rt p g
  · rw [if_pos h9]
    by_cases h8 : rt p h = rt p g
    · rw [h8, un_same g1]; exact hp
    · exact (rt_pup hp g1 h1 (by omega)).1
  · rw [if_neg h9]
    exact (rt_pup hp h1 g1 (by omega)).1
theorem un_j {p : Nat → Nat} {g h : Nat} (hp : dn p) : rt (un p g h) g = rt (un p g h) h := by
  obtain ⟨g1, -⟩ := rt_in hp g
  obtain ⟨h1, -⟩ := rt_in hp h
  unfold un
  by_cases h9 : rt p h ≤ rt p g
  · rw [if_pos h9]
    by_cases h8 : rt p h = rt p g
    · rw [h8, un_same g1, h8]
    · have := (rt_pup hp g1 h1 (by omega)).2
      rw [this g, this h, if_pos rfl, if_neg h8]
  · rw [if_neg h9]
    have := (rt_pup hp h1 g1 (by omega)).2
    rw [this g, this h, if_pos rfl, if_neg (by omega)]
theorem un_k {p : Nat → Nat} {g h a b : Nat} (hp : dn p) (e : rt p a = rt p b) : rt (un p g h) a = rt (un p g h) b := by
  obtain ⟨g1, -⟩ := rt_in hp g
  obtain ⟨h1, -⟩ := rt_in hp h
  unfold un
  by_cases h9 : rt p h ≤ rt p g
  · rw [if_pos h9]
    by_cases h8 : rt p h = rt p g
    · rw [h8, un_same g1, e]
    · have := (rt_pup hp g1 h1 (by omega)).2
      rw [this a, this b, e]
  · rw [if_neg h9]
    have := (rt_pup hp h1 g1 (by omega)).2
    rw [this a, this b, e]
/-! how many labels there are -/
def dLe (V : Nat) (L : Nat → Nat) (k : Nat) : Prop := ∃ R : List Nat, R.length ≤ k ∧ ∀ x, x < V → L x ∈ R
def mgL (L : Nat → Nat) : List (Nat × Nat) → Nat → Nat
  | [] => L
  | (a, b) :: E => mgL (fun x => if L x = L a then L b else L x) E
theorem mgL_k {V : Nat} : ∀ (E : List (Nat × Nat)) (L : Nat → Nat) (k : Nat), dLe V (mgL L E) k → dLe V L (k + E.length)
  | [], L, k, h => h
  | (a, b) :: E, L, k, h => by
    obtain ⟨R, h1, h2⟩ := mgL_k E _ k h
    refine ⟨L a :: R, by rw [List.length_cons, List.length_cons]; omega, fun x hx => ?_⟩
    have := h2 x hx
    by_cases h9 : L x = L a
    · rw [h9]; exact List.mem_cons_self
    · have this : (if L x = L a then L b else L x) ∈ R := this
      rw [if_neg h9] at this
      exact List.mem_cons_of_mem _ this
theorem mgL_e : ∀ (E : List (Nat × Nat)) (L : Nat → Nat) (x y : Nat), L x = L y → mgL L E x = mgL L E y
  | [], L, x, y, h => h
  | (a, b) :: E, L, x, y, h => mgL_e E _ x y (by rw [h])
theorem mgL_m : ∀ (E : List (Nat × Nat)) (L : Nat → Nat) (a b : Nat), (a, b) ∈ E → mgL L E a = mgL L E b
  | [], L, a, b, h => by cases h
  | (c, d) :: E, L, a, b, h => by
    rcases List.mem_cons.mp h with h9 | h9
    · obtain ⟨rfl, rfl⟩ := Prod.mk.inj h9
      refine mgL_e E _ a b ?_
      show (if L a = L a then L b else L a) = if L b = L a then L b else L b
      rw [if_pos rfl]
      by_cases h8 : L b = L a
      · rw [if_pos h8]
      · rw [if_neg h8]
    · exact mgL_m E _ a b h9
/-! the loops of a state -/
def ufR (y : ow_MS) (p : Nat → Nat) : Prop := dn p ∧ ∀ g, g < 48 → y.2.1 47 g = nI (p g)
/-- at a crossing ends are joined as in smoothing -/
def alS (sg : Nat → Bool) (st : Int32) (x : Nat) : Bool := !(sg x == decide (((st >>> (nI x &&& 31)) &&& 1) ≠ 1))
def lpS (A : rn_L) (sg : Nat → Bool) (st : Int32) (v : Nat) (p : Nat → Nat) : Nat → Nat := if uns A v = 0 then (if alS sg st (crs A v) then un (un p (rn_pv A v) (mtf A v)) (rn_pv A (mtf A v)) v else un (un p (rn_pv A v) (rn_pv A (mtf A v))) v (mtf A v)) else p
def lpA (A : rn_L) (sg : Nat → Bool) (st : Int32) : Nat → Nat → Nat
  | 0 => fun x => x
  | v + 1 => lpS A sg st v (lpA A sg st v)
theorem lpS_dn {A : rn_L} {sg : Nat → Bool} {st : Int32} {v : Nat} {p : Nat → Nat} (hp : dn p) : dn (lpS A sg st v p) := by
  unfold lpS
  by_cases h1 : uns A v = 0
  · rw [if_pos h1]
    by_cases h2 : alS sg st (crs A v) = true
    · rw [if_pos h2]; exact un_dn (un_dn hp)
    · rw [if_neg h2]; exact un_dn (un_dn hp)
  · rw [if_neg h1]; exact hp
theorem lpA_dn {A : rn_L} {sg : Nat → Bool} {st : Int32} : ∀ v, dn (lpA A sg st v)
  | 0 => fun g => Nat.le_refl g
  | v + 1 => lpS_dn (lpA_dn v)
theorem lpS_k {A : rn_L} {sg : Nat → Bool} {st : Int32} {v a b : Nat} {p : Nat → Nat} (hp : dn p) (e : rt p a = rt p b) : rt (lpS A sg st v p) a = rt (lpS A sg st v p) b := by
  unfold lpS
  by_cases h1 : uns A v = 0
  · rw [if_pos h1]
    by_cases h2 : alS sg st (crs A v) = true
    · rw [if_pos h2]; exact un_k (un_dn hp) (un_k hp e)
    · rw [if_neg h2]; exact un_k (un_dn hp) (un_k hp e)
  · rw [if_neg h1]; exact e
/-- what is joined at an over visit -/
def ljn (A : rn_L) (p : Nat → Nat) (v : Nat) : Prop := (rt p (rn_pv A v) = rt p (mtf A v) ∧ rt p (rn_pv A (mtf A v)) = rt p v) ∨ (rt p (rn_pv A v) = rt p (rn_pv A (mtf A v)) ∧ rt p v = rt p (mtf A v))
theorem lpS_j {A : rn_L} {sg : Nat → Bool} {st : Int32} {v : Nat} {p : Nat → Nat} (hp : dn p) (h1 : uns A v = 0) : ljn A (lpS A sg st v p) v := by
  unfold lpS
  rw [if_pos h1]
  by_cases h2 : alS sg st (crs A v) = true
  · rw [if_pos h2]
    exact Or.inl ⟨un_k (un_dn hp) (un_j hp), un_j (un_dn hp)⟩
  · rw [if_neg h2]
    exact Or.inr ⟨un_k (un_dn hp) (un_j hp), un_j (un_dn hp)⟩
theorem lpA_j {A : rn_L} {sg : Nat → Bool} {st : Int32} : ∀ (V v : Nat), v < V → uns A v = 0 → ljn A (lpA A sg st V) v
  | 0, v, h, _ => by omega
  | V + 1, v, h, hu => by
    show ljn A (lpS A sg st V (lpA A sg st V)) v
    by_cases hv : v = V
    · rw [hv]
      rw [hv] at hu
      exact lpS_j (lpA_dn V) hu
    · have := lpA_j (sg := sg) (st := st) V v (by omega) hu
      rcases this with ⟨a, b⟩ | ⟨a, b⟩
      · exact Or.inl ⟨lpS_k (lpA_dn V) a, lpS_k (lpA_dn V) b⟩
      · exact Or.inr ⟨lpS_k (lpA_dn V) a, lpS_k (lpA_dn V) b⟩
section UF
variable {z : ow_MS}
theorem u_X13_root_1 {x1 : Int32} {x2 : Int32} {z : ow_MS} {Q : (Int32 × ow_MS) → Prop} (H : Tt (fun K k => qm_X13_root_1 K (q_X13_root K k) x1 x2 z) Q) : Tt (fun K k => q_X13_root K k 1 x1 x2 z) Q := w_un (fun _ _ => rfl) H
theorem e_X13_root {x1 : Int32} {z : ow_MS} {Q : (Int32 × ow_MS) → Prop} (H : Tt (fun K k => q_X13_root K k 0 x1 0 z) Q) : Te (fun K => qe_X13_root K x1 z) Q := w_te H
theorem u_X13_root_0 {x1 : Int32} {x2 : Int32} {z : ow_MS} {Q : (Int32 × ow_MS) → Prop} (H : Tt (fun K k => qm_X13_root_0 K (q_X13_root K k) x1 x2 z) Q) : Tt (fun K k => q_X13_root K k 0 x1 x2 z) Q := w_un (fun _ _ => rfl) H
theorem tp_root {p : Nat → Nat} (hu : ufR z p) : ∀ {g : Nat}, g < 48 → Te (fun K => qe_X13_root K (nI g) z) (fun r => r = (nI (rt p g), z)) := by
  intro g hg
  have key : ∀ (r : Nat), r < 48 → rt p r = rt p g → Tt (fun K i => q_X13_root K i 1 (nI g) (nI r) z) (fun r => r = (nI (rt p g), z)) := by
    intro r
    induction r using Nat.strongRecOn with
    | ind r ih =>
    intro hr e
    have h1 := hu.1 r
    refine u_X13_root_1 ?_; unfold qm_X13_root_1
    refine w_rdI ml47 rfl hr (hu.2 r hr) (w_eqN (by omega) (by omega) (fun h9 => w_some ?_) (fun h9 => w_rdI ml47 rfl hr (hu.2 r hr) (ih (p r) (by omega) (by omega) ?_)))
    · rw [← e, rt_root h9]
    · rw [← e, rt_step hu.1 h9]
  refine e_X13_root ?_
  refine u_X13_root_0 ?_; unfold qm_X13_root_0
  exact key g hg rfl
theorem e_X13_unite {x1 : Int32} {x2 : Int32} {z : ow_MS} {Q : ow_MS → Prop} (H : Tt (fun K _ => qm_X13_unite_0 K x1 x2 z) Q) : Te (fun K => qe_X13_unite K x1 x2 z) Q := w_te0 H
theorem tp_unite {p : Nat → Nat} {g h : Nat} (hu : ufR z p) (hg : g < 48) (hh : h < 48) : Te (fun K => qe_X13_unite K (nI g) (nI h) z) (fun z1 => ufR z1 (un p g h) ∧ fr (fun g => g = 47) z z1) := by
  have g1 := (rt_in hu.1 g).2
  have h1 := (rt_in hu.1 h).2
  refine e_X13_unite ?_; unfold qm_X13_unite_0
  refine w_cs1 (tp_root hu hg) (fun a y e9 => ?_)
  cases e9
  refine w_cs1 (tp_root hu hh) (fun a y e9 => ?_)
  cases e9
  refine w_le (by omega) (by omega) (fun h9 => w_wrI ml47 rfl (by omega) (w_some ⟨⟨un_dn hu.1, fun x hx => ?_⟩, fr_I rfl⟩)) (fun h9 => w_wrI ml47 rfl (by omega) (w_some ⟨⟨un_dn hu.1, fun x hx => ?_⟩, fr_I rfl⟩))
  · unfold un
    rw [if_pos h9]
    unfold pup
    by_cases hx2 : x = rt p g
    · rw [if_pos hx2, hx2, po_usI_at]
    · rw [if_neg hx2, po_usI_ne hx2]
      exact hu.2 x hx
  · unfold un
    rw [if_neg (by omega)]
    unfold pup
    by_cases hx2 : x = rt p h
    · rw [if_pos hx2, hx2, po_usI_at]
    · rw [if_neg hx2, po_usI_ne hx2]
      exact hu.2 x hx
theorem pv_lt {A : rn_L} {v : Nat} (hv : v < A.flatten.length) : rn_pv A v < A.flatten.length := by
  obtain ⟨h1, h2, h3⟩ := rn_c_in A v hv
  have := rn_b_le A (rn_c A v + 1)
  unfold rn_pv
  split <;> omega
theorem u_X13_loops_2 {x2 : Int32} {x3 : Int32} {x4 : Int32} {x5 : Int32} {r1 : Nat} {t0 : Int32} {z : ow_MS} {Q : ow_MS → Prop} (H : Tt (fun K k => qm_X13_loops_2 K (q_X13_loops K k) x2 x3 x4 x5 r1 t0 z) Q) : Tt (fun K k => q_X13_loops K k 2 x2 x3 x4 x5 r1 t0 z) Q := w_un (fun _ _ => rfl) H
theorem u_X13_loops_5 {x2 : Int32} {x3 : Int32} {x4 : Int32} {x5 : Int32} {r1 : Nat} {t0 : Int32} {z : ow_MS} {Q : ow_MS → Prop} (H : Tt (fun K k => qm_X13_loops_5 K (q_X13_loops K k) x2 x3 x4 x5 r1 t0 z) Q) : Tt (fun K k => q_X13_loops K k 5 x2 x3 x4 x5 r1 t0 z) Q := w_un (fun _ _ => rfl) H
theorem u_X13_loops_4 {x2 : Int32} {x3 : Int32} {x4 : Int32} {x5 : Int32} {r1 : Nat} {t0 : Int32} {z : ow_MS} {Q : ow_MS → Prop} (H : Tt (fun K k => qm_X13_loops_4 K (q_X13_loops K k) x2 x3 x4 x5 r1 t0 z) Q) : Tt (fun K k => q_X13_loops K k 4 x2 x3 x4 x5 r1 t0 z) Q := w_un (fun _ _ => rfl) H
theorem u_X13_loops_3 {x2 : Int32} {x3 : Int32} {x4 : Int32} {x5 : Int32} {r1 : Nat} {t0 : Int32} {z : ow_MS} {Q : ow_MS → Prop} (H : Tt (fun K k => qm_X13_loops_3 K (q_X13_loops K k) x2 x3 x4 x5 r1 t0 z) Q) : Tt (fun K k => q_X13_loops K k 3 x2 x3 x4 x5 r1 t0 z) Q := w_un (fun _ _ => rfl) H
theorem u_X13_loops_1 {x2 : Int32} {x3 : Int32} {x4 : Int32} {x5 : Int32} {r1 : Nat} {t0 : Int32} {z : ow_MS} {Q : ow_MS → Prop} (H : Tt (fun K k => qm_X13_loops_1 K (q_X13_loops K k) x2 x3 x4 x5 r1 t0 z) Q) : Tt (fun K k => q_X13_loops K k 1 x2 x3 x4 x5 r1 t0 z) Q := w_un (fun _ _ => rfl) H
theorem e_X13_loops {r1 : Nat} {x2 : Int32} {z : ow_MS} {Q : ow_MS → Prop} (H : Tt (fun K k => q_X13_loops K k 0 x2 0 0 0 r1 0 z) Q) : Te (fun K => qe_X13_loops K r1 x2 z) Q := w_te H
theorem u_X13_loops_0 {x2 : Int32} {x3 : Int32} {x4 : Int32} {x5 : Int32} {r1 : Nat} {t0 : Int32} {z : ow_MS} {Q : ow_MS → Prop} (H : Tt (fun K k => qm_X13_loops_0 K (q_X13_loops K k) x2 x3 x4 x5 r1 t0 z) Q) : Tt (fun K k => q_X13_loops K k 0 x2 x3 x4 x5 r1 t0 z) Q := w_un (fun _ _ => rfl) H
theorem tp_loops {n : Nat} {A : rn_L} {sg : Nat → Bool} {st : Int32} (hn : mw_net n) (hA : oNet z n A sg) : Te (fun K => qe_X13_loops K n st z) (fun z1 => ufR z1 (lpA A sg st A.flatten.length) ∧ fr (fun g => g = 47) z z1) := by
  have hl := hA.len
  have hd := wkF_ok hA.wk
  have hmn := net_mod hn
  let Q : ow_MS → Prop := fun z1 => ufR z1 (lpA A sg st A.flatten.length) ∧ fr (fun g => g = 47) z z1
  have oA : ∀ {y : ow_MS}, fr (fun g => g = 47) z y → oNet y n A sg := fun hf => oNet_fr hf (fun g hg => by omega) hA
  have key : ∀ (d v : Nat) (y : ow_MS), v + d = A.flatten.length → ufR y (lpA A sg st v) → fr (fun g => g = 47) z y → Tt (fun K i => q_X13_loops K i 2 st (nI v) 0 0 n 0 y) Q := by
    intro d
    induction d with
    | zero =>
      intro v y hv hu hf
      have hv : v = A.flatten.length := by omega
      subst hv
      refine u_X13_loops_2 ?_; unfold qm_X13_loops_2
      exact w_rdF (oA hf).1.V (w_leT (by omega) (by omega) (w_some ⟨hu, hf⟩))
    | succ d ih =>
      intro v y hv hu hf
      have hvl : v < A.flatten.length := by omega
      have hO := oA hf
      obtain ⟨c1, c2, c3⟩ := hO.cx hvl
      have hml := mtf_lt hd hvl
      have hp1 := pv_lt hvl
      have hp2 := pv_lt hml
      have c5 : ∀ (x4 : Int32) (y2 : ow_MS), ufR y2 (lpA A sg st (v + 1)) → fr (fun g => g = 47) z y2 → Tt (fun K i => q_X13_loops K i 5 st (nI v) x4 0 n 0 y2) Q := by
        intro x4 y2 hu2 hf2
        refine u_X13_loops_5 ?_; unfold qm_X13_loops_5
        rw [nI_1]
        exact ih (v + 1) y2 (by omega) hu2 hf2
      refine u_X13_loops_2 ?_; unfold qm_X13_loops_2
      refine w_rdF hO.1.V (w_leF (by omega) hvl (w_rdI (pl7 hn) rfl (by omega) (lk_m hd hO.1 hvl) (w_rdI (pl5 hn) rfl (by omega) (lk_cu hO.1 hvl).2 (w_eqN (b := 0) (by omega) (by omega) (fun hu0 => ?_) (fun hu0 => ?_)))))
      · have c3' : ∀ (b : Bool), decide (((st >>> (nI (crs A v) &&& 31)) &&& 1) ≠ 1) = b → Tt (fun K i => q_X13_loops K i 3 st (nI v) (nI (mtf A v)) 0 n (bZ (!b)) y) Q := by
          intro b hb
          have c4 : ∀ (t : Bool), sg (crs A v) = t → Tt (fun K i => q_X13_loops K i 4 st (nI v) (nI (mtf A v)) (bZ (!b)) n (bZ (!t)) y) Q := by
            intro t ht
            have hal : alS sg st (crs A v) = !(t == b) := by
              unfold alS
              rw [hb, ht]
            refine u_X13_loops_4 ?_; unfold qm_X13_loops_4
            refine w_if (fun h9 => ?_) (fun h9 => ?_)
            · have htb : t = b := by cases t <;> cases b <;> first | rfl | exact absurd h9 (by decide)
              have hal2 : ¬ alS sg st (crs A v) = true := by rw [hal, htb]; simp
              refine w_rdI (pl10 hn) rfl (by omega) (lk_p hO.1 hvl) (w_rdI (pl10 hn) rfl (by omega) (lk_p hO.1 hml) (w_cs0 (tp_unite hu (by omega) (by omega)) (fun y1 ⟨u1, f1⟩ => w_cs0 (tp_unite u1 (by omega) (by omega)) (fun y2 ⟨u2, f2⟩ => c5 _ y2 ?_ (fr_tr hf (fr_tr f1 f2))))))
              show ufR y2 (lpS A sg st v (lpA A sg st v))
              unfold lpS
              rw [if_pos hu0, if_neg hal2]
              exact u2
            · have htb : t ≠ b := fun e => h9 (by rw [e])
              have hal2 : alS sg st (crs A v) = true := by
                rw [hal]
                cases t <;> cases b <;> first | rfl | exact absurd rfl htb
              refine w_rdI (pl10 hn) rfl (by omega) (lk_p hO.1 hvl) (w_cs0 (tp_unite hu (by omega) (by omega)) (fun y1 ⟨u1, f1⟩ => w_rdI (pl10 hn) rfl (by omega) (lk_p (oA (fr_tr hf f1)).1 hml) (w_cs0 (tp_unite u1 (by omega) (by omega)) (fun y2 ⟨u2, f2⟩ => c5 _ y2 ?_ (fr_tr hf (fr_tr f1 f2))))))
              show ufR y2 (lpS A sg st v (lpA A sg st v))
              unfold lpS
              rw [if_pos hu0, if_pos hal2]
              exact u2
          refine u_X13_loops_3 ?_; unfold qm_X13_loops_3
          refine w_rdI (pl4 hn) rfl (by omega) (lk_cu hO.1 hvl).1 (w_rdI (pl6 hn) rfl (by omega) c3 (w_if (fun h9 => ?_) (fun h9 => ?_)))
          · refine c4 true ?_
            cases hs : sg (crs A v) with
            | true => rfl
            | false => rw [hs] at h9; exact absurd h9 (by decide)
          · refine c4 false ?_
            cases hs : sg (crs A v) with
            | false => rfl
            | true => rw [hs] at h9; exact absurd (by decide) h9
        refine w_rdI (pl4 hn) rfl (by omega) (lk_cu hO.1 hvl).1 (w_if (fun h9 => c3' false (decide_eq_false (fun h8 => h8 h9))) (fun h9 => c3' true (decide_eq_true h9)))
      · refine c5 _ y ?_ hf
        show ufR y (lpS A sg st v (lpA A sg st v))
        unfold lpS
        rw [if_neg hu0]
        exact hu
  have ini : ∀ (d i : Nat) (y : ow_MS), i + d = 48 → (∀ g, g < i → y.2.1 47 g = nI g) → fr (fun g => g = 47) z y → Tt (fun K t => q_X13_loops K t 1 st (nI i) 0 0 n 0 y) Q := by
    intro d
    induction d with
    | zero =>
      intro i y hi hg hf
      refine u_X13_loops_1 ?_; unfold qm_X13_loops_1
      exact w_leT (a := 48) (by omega) (by omega) (key A.flatten.length 0 y (by omega) ⟨fun g => Nat.le_refl g, fun g h9 => hg g (by omega)⟩ hf)
    | succ d ih =>
      intro i y hi hg hf
      refine u_X13_loops_1 ?_; unfold qm_X13_loops_1
      rw [nI_1]
      refine w_leF (a := 48) (by omega) (by omega) (w_wrI ml47 rfl (by omega) (ih (i + 1) _ (by omega) (fun g h9 => ?_) (fr_I2 hf rfl)))
      by_cases hgi : g = i
      · rw [hgi, po_usI_at]
      · exact rd_ne hgi (hg g (by omega))
  refine e_X13_loops ?_
  refine u_X13_loops_0 ?_; unfold qm_X13_loops_0
  exact ini 48 0 z (by omega) (fun g hg => absurd hg (by omega)) fr_rf
def rtsN (p : Nat → Nat) (V : Nat) : Nat := ((List.range V).filter (fun g => decide (p g = g))).length
theorem rtsN_s {p : Nat → Nat} {V : Nat} : rtsN p (V + 1) = rtsN p V + if p V = V then 1 else 0 := by
  unfold rtsN
  rw [List.range_succ, List.filter_append, List.length_append]
  by_cases h : p V = V
  · rw [if_pos h, List.filter_cons_of_pos (p := fun g => decide (p g = g)) (decide_eq_true h)]
    rfl
  · rw [if_neg h, List.filter_cons_of_neg (p := fun g => decide (p g = g)) (by simpa using h)]
    rfl
theorem u_X13_countLoops_1 {x2 : Int32} {x3 : Int32} {r1 : Nat} {t0 : Int32} {t1 : Int32} {z : ow_MS} {Q : (Int32 × ow_MS) → Prop} (H : Tt (fun K k => qm_X13_countLoops_1 K (q_X13_countLoops K k) x2 x3 r1 t0 t1 z) Q) : Tt (fun K k => q_X13_countLoops K k 1 x2 x3 r1 t0 t1 z) Q := w_un (fun _ _ => rfl) H
theorem u_X13_countLoops_2 {x2 : Int32} {x3 : Int32} {r1 : Nat} {t0 : Int32} {t1 : Int32} {z : ow_MS} {Q : (Int32 × ow_MS) → Prop} (H : Tt (fun K k => qm_X13_countLoops_2 K (q_X13_countLoops K k) x2 x3 r1 t0 t1 z) Q) : Tt (fun K k => q_X13_countLoops K k 2 x2 x3 r1 t0 t1 z) Q := w_un (fun _ _ => rfl) H
theorem e_X13_countLoops {r1 : Nat} {z : ow_MS} {Q : (Int32 × ow_MS) → Prop} (H : Tt (fun K k => q_X13_countLoops K k 0 0 0 r1 0 0 z) Q) : Te (fun K => qe_X13_countLoops K r1 z) Q := w_te H
theorem u_X13_countLoops_0 {x2 : Int32} {x3 : Int32} {r1 : Nat} {t0 : Int32} {t1 : Int32} {z : ow_MS} {Q : (Int32 × ow_MS) → Prop} (H : Tt (fun K k => qm_X13_countLoops_0 K (q_X13_countLoops K k) x2 x3 r1 t0 t1 z) Q) : Tt (fun K k => q_X13_countLoops K k 0 x2 x3 r1 t0 t1 z) Q := w_un (fun _ _ => rfl) H
theorem tp_countL {n V : Nat} {p : Nat → Nat} (hV : z.1 (n + 1) = nI V) (hV2 : V ≤ 48) (hu : ufR z p) : Te (fun K => qe_X13_countLoops K n z) (fun r => r = (nI (rtsN p V), z)) := by
  have key : ∀ (d v : Nat), v + d = V → Tt (fun K i => q_X13_countLoops K i 1 (nI (rtsN p v)) (nI v) n 0 0 z) (fun r => r = (nI (rtsN p V), z)) := by
    intro d
    induction d with
    | zero =>
      intro v hv
      have hv : v = V := by omega
      subst hv
      refine u_X13_countLoops_1 ?_; unfold qm_X13_countLoops_1
      exact w_rdF hV (w_leT (by omega) (by omega) (w_some rfl))
    | succ d ih =>
      intro v hv
      have h1 := hu.1 v
      refine u_X13_countLoops_1 ?_; unfold qm_X13_countLoops_1
      refine w_rdF hV (w_leF (by omega) (by omega) (w_rdI ml47 rfl (by omega) (hu.2 v (by omega)) (w_eqN (by omega) (by omega) (fun h9 => ?_) (fun h9 => ?_))))
      · refine u_X13_countLoops_2 ?_; unfold qm_X13_countLoops_2
        have := ih (v + 1) (by omega)
        rw [rtsN_s, if_pos h9] at this
        rw [nI_1, nI_1]
        exact this
      · refine u_X13_countLoops_2 ?_; unfold qm_X13_countLoops_2
        have := ih (v + 1) (by omega)
        rw [rtsN_s, if_neg h9] at this
        rw [nI_1]
        have e : nI (rtsN p v) + 0 = nI (rtsN p v + 0) := by
          rw [Nat.add_zero]
          exact Int32.add_zero _
        rw [e]
        exact this
  refine e_X13_countLoops ?_
  refine u_X13_countLoops_0 ?_; unfold qm_X13_countLoops_0
  exact key V 0 (by omega)
/-- components with visits -/
def neC (A : rn_L) : Nat := ((List.range A.length).filter (fun c => decide (rn_b A c < rn_b A (c + 1)))).length
def eC (A : rn_L) : Nat := ((List.range A.length).filter (fun c => !decide (rn_b A c < rn_b A (c + 1)))).length
theorem filt_sum {α : Type} (q : α → Bool) : ∀ l : List α, (l.filter q).length + (l.filter (fun a => !q a)).length = l.length
  | [] => rfl
  | a :: l => by
    have := filt_sum q l
    cases h : q a with
    | true =>
      rw [List.filter_cons_of_pos h, List.filter_cons_of_neg (by rw [h]; decide), List.length_cons, List.length_cons]
      omega
    | false =>
      rw [List.filter_cons_of_neg (by rw [h]; decide), List.filter_cons_of_pos (by rw [h]; rfl), List.length_cons, List.length_cons]
      omega
theorem neC_eC (A : rn_L) : neC A + eC A = A.length := by
  have := filt_sum (fun c => decide (rn_b A c < rn_b A (c + 1))) (List.range A.length)
  rw [List.length_range] at this
  exact this
/-- a label that stays from each visit to the one before it is one for each component -/
theorem lab_c {A : rn_L} {M : Nat → Nat} (h : ∀ v, v < A.flatten.length → M (rn_pv A v) = M v) : ∀ v, v < A.flatten.length → M v = M (rn_b A (rn_c A v)) := by
  intro v
  induction v using Nat.strongRecOn with
  | ind v ih =>
  intro hv
  obtain ⟨h1, h2, h3⟩ := rn_c_in A v hv
  by_cases hb : rn_b A (rn_c A v) = v
  · rw [hb]
  · have e1 : rn_pv A v = v - 1 := by
      unfold rn_pv
      rw [if_pos (by omega)]
    have h4 := h v hv
    rw [e1] at h4
    have e2 : rn_c A (v - 1) = rn_c A v := rn_c_of A _ _ (by omega) (by omega)
    have := ih (v - 1) (by omega) (by omega)
    rw [e2] at this
    rw [← h4, this]
/-- the over visits -/
def ovs (A : rn_L) (V : Nat) : List Nat := (List.range V).filter (fun u => decide (uns A u = 0))
theorem ovs_le {A : rn_L} {c : Nat} (hok : okF A.flatten c) : (ovs A A.flatten.length).length ≤ c := by
  have hn : ((ovs A A.flatten.length).map (crs A)).Nodup := by
    refine nodup_map (List.nodup_range.filter _) (fun i j hi hj e => ?_)
    have hi := List.mem_filter.mp hi
    have hj := List.mem_filter.mp hj
    have hil := List.mem_range.mp hi.1
    have hjl := List.mem_range.mp hj.1
    have e1 := of_decide_eq_true hi.2
    have e2 := of_decide_eq_true hj.2
    refine nodup_at hok.1 (vAt_of hil) (?_ : A.flatten[j]? = some (vAt A i))
    rw [vAt_of hjl, show vAt A j = vAt A i from Prod.ext e.symm (e2.trans e1.symm)]
  have := nodup_le _ (List.range c) hn (fun a ha => by
    obtain ⟨u, hu, e⟩ := List.mem_map.mp ha
    have hul := List.mem_range.mp (List.mem_filter.mp hu).1
    rw [← e]
    exact List.mem_range.mpr ((hok.2 _).mp (List.mem_of_getElem? (vAt_of hul))).1)
  rw [List.length_map, List.length_range] at this
  exact this
theorem mtf_uns {A : rn_L} {v : Nat} (hF : wkF A.flatten) (hv : v < A.flatten.length) (h : uns A v ≠ 0) : uns A (mtf A v) = 0 := by
  have hd := wkF_ok hF
  obtain ⟨n1, p1, p2, a1, a2, a3⟩ := mtf_mt hd hv
  rw [vAt_of hv] at a1
  cases a1
  have e2 := vAt_eq a2
  obtain ⟨-, k2, -⟩ := hF.2 _ (List.mem_of_getElem? a2)
  obtain ⟨-, k3, -⟩ := hF.2 _ (List.mem_of_getElem? (vAt_of hv))
  have hne : (vAt A v).2 ≠ p2.2 := fun e9 => n1 (nodup_at hF.1 (vAt_of hv) (by rw [a2]; congr 1; exact Prod.ext a3.symm e9.symm))
  show (vAt A (mtf A v)).2 = 0
  rw [e2]
  have : (vAt A v).2 ≠ 0 := h
  omega
/-- there are not more loops than crossings and components with visits -/
theorem loops_le {A : rn_L} {c : Nat} {sg : Nat → Bool} {st : Int32} (hok : okF A.flatten c) (hc : c ≤ 40) : rtsN (lpA A sg st A.flatten.length) A.flatten.length ≤ c + neC A := by
  have hF := okF_wk hc hok
  have hd := wkF_ok hF
  let p := lpA A sg st A.flatten.length
  have hp : dn p := lpA_dn _
  let E : List (Nat × Nat) := (ovs A A.flatten.length).map (fun v => (rn_pv A v, v))
  let M := mgL (rt p) E
  have hE : ∀ v, v < A.flatten.length → uns A v = 0 → M (rn_pv A v) = M v := fun v hv hu => mgL_m E (rt p) _ _ (List.mem_map.mpr ⟨v, List.mem_filter.mpr ⟨List.mem_range.mpr hv, decide_eq_true hu⟩, rfl⟩)
  have hM : ∀ v, v < A.flatten.length → M (rn_pv A v) = M v := by
    intro v hv
    by_cases hu : uns A v = 0
    · exact hE v hv hu
    · have hml := mtf_lt hd hv
      have hmu := mtf_uns hF hv hu
      have hj := lpA_j (sg := sg) (st := st) _ _ hml hmu
      have hmm := mtf_mtf hd hv
      have h1 := hE _ hml hmu
      rcases hj with ⟨a, b⟩ | ⟨a, b⟩
      · rw [hmm] at a b
        have a2 : M (rn_pv A (mtf A v)) = M v := mgL_e E (rt p) _ _ a
        have b2 : M (rn_pv A v) = M (mtf A v) := mgL_e E (rt p) _ _ b
        rw [b2, ← h1, a2]
      · rw [hmm] at a b
        have a2 : M (rn_pv A (mtf A v)) = M (rn_pv A v) := mgL_e E (rt p) _ _ a
        have b2 : M (mtf A v) = M v := mgL_e E (rt p) _ _ b
        rw [← a2, h1, b2]
  have hlab := lab_c hM
  have hdl : dLe A.flatten.length M (neC A) := by
    refine ⟨((List.range A.length).filter (fun c => decide (rn_b A c < rn_b A (c + 1)))).map (fun c => M (rn_b A c)), by rw [List.length_map]; exact Nat.le_refl _, fun v hv => ?_⟩
    obtain ⟨h1, h2, h3⟩ := rn_c_in A v hv
    rw [hlab v hv]
    exact List.mem_map.mpr ⟨rn_c A v, List.mem_filter.mpr ⟨List.mem_range.mpr h1, decide_eq_true (by omega)⟩, rfl⟩
  obtain ⟨R, hR, hcov⟩ := mgL_k E (rt p) _ hdl
  have hEl : E.length ≤ c := by
    rw [List.length_map]
    exact ovs_le hok
  have := nodup_le ((List.range A.flatten.length).filter (fun g => decide (p g = g))) R (List.nodup_range.filter _) (fun g hg => by
    have hg := List.mem_filter.mp hg
    have h2 := hcov g (List.mem_range.mp hg.1)
    rw [rt_root (of_decide_eq_true hg.2)] at h2
    exact h2)
  show ((List.range A.flatten.length).filter (fun g => decide (p g = g))).length ≤ _
  omega
end UF
end
section
/-! 99zzzl.jones -/
/-! jones has an answer -/
def pcF : Nat → Nat → Nat
  | 0, _ => 0
  | n + 1, k => k % 2 + pcF n (k / 2)
theorem pcF_le : ∀ (n c k : Nat), k < 2 ^ c → pcF n k ≤ c
  | 0, c, k, _ => Nat.zero_le _
  | n + 1, 0, k, h => by
    have hk : k = 0 := by simpa using h
    subst hk
    have := pcF_le n 0 0 (by decide)
    show 0 + pcF n 0 ≤ 0
    omega
  | n + 1, c + 1, k, h => by
    have := pcF_le n c (k / 2) (by rw [Nat.pow_succ] at h; omega)
    show k % 2 + pcF n (k / 2) ≤ c + 1
    omega
def pc (k : Nat) : Nat := pcF 32 k
theorem bc_4096 : ∀ a : Fin 64, ∀ b : Fin 64, ow_bc (nI (64 * a.val + b.val)) = nI (pc (64 * a.val + b.val)) := by decide +kernel
theorem bc_pc {k : Nat} (h : k < 4096) : ow_bc (nI k) = nI (pc k) := by
  have := bc_4096 ⟨k / 64, by omega⟩ ⟨k % 64, by omega⟩
  rw [show 64 * (k / 64) + k % 64 = k by omega] at this
  exact this
theorem pc_le {c k : Nat} (h : k < 2 ^ c) : pc k ≤ c := pcF_le 32 c k h
theorem shl_31 : ∀ c : Fin 31, (1 : Int32) <<< (nI c.val &&& 31) = nI (2 ^ c.val) := by decide +kernel
theorem shl1 {c : Nat} (h : c < 31) : (1 : Int32) <<< (nI c &&& 31) = nI (2 ^ c) := shl_31 ⟨c, h⟩
theorem two_mono {a b : Nat} (h : a ≤ b) : 2 ^ a ≤ 2 ^ b := Nat.pow_le_pow_right (by decide) h
section JON
variable {X : (Nat → Nat → Int32) → Prop} {z : ow_MS}
def eCn (A : rn_L) (k : Nat) : Nat := ((List.range k).filter (fun c => !decide (rn_b A c < rn_b A (c + 1)))).length
theorem eCn_s {A : rn_L} {k : Nat} : eCn A (k + 1) = eCn A k + if rn_b A k = rn_b A (k + 1) then 1 else 0 := by
  unfold eCn
  have hm := rn_b_mono A k
  rw [List.range_succ, List.filter_append, List.length_append]
  by_cases h : rn_b A k = rn_b A (k + 1)
  · rw [if_pos h, List.filter_cons_of_pos (p := fun c => !decide (rn_b A c < rn_b A (c + 1))) (by rw [decide_eq_false (by omega)]; rfl)]
    rfl
  · rw [if_neg h, List.filter_cons_of_neg (p := fun c => !decide (rn_b A c < rn_b A (c + 1))) (by rw [decide_eq_true (by omega)]; decide)]
    rfl
theorem tp_circles2 {n : Nat} {A : rn_L} (hn : mw_net n) (hlen : A.flatten.length ≤ 40) (hcn : A.length ≤ 39) (hA : rn_At z n A []) : Te (fun K => qe_X13_circlesOf K n z) (fun r => r = (nI (eC A), z)) := by
  have key : ∀ (d c : Nat), c + d = A.length → Tt (fun K i => q_X13_circlesOf K i 1 (nI (eCn A c)) (nI c) n 0 0 z) (fun r => r = (nI (eC A), z)) := by
    intro d
    induction d with
    | zero =>
      intro c hc
      have hc : c = A.length := by omega
      subst hc
      refine u_X13_circlesOf_1 ?_; unfold qm_X13_circlesOf_1
      exact w_rdF hA.2.1 (w_leT (by omega) (by omega) (w_some rfl))
    | succ d ih =>
      intro c hc
      have hb1 := rn_b_le A c
      have hb2 := rn_b_le A (c + 1)
      refine u_X13_circlesOf_1 ?_; unfold qm_X13_circlesOf_1
      refine w_rdF hA.2.1 (w_leF (by omega) (by omega) (w_cs1 (R := fun r => r = (bZ (decide (rn_b A c = rn_b A (c + 1))), z)) ?_ (fun a z1 e => ?_)))
      · refine e_X12_isCircle ?_; unfold qm_X12_isCircle_0
        rw [nI_1]
        refine w_rdI (pl3 hn) rfl (by omega) (hA.2.2.1 c (by omega)) (w_rdI (pl3 hn) rfl (by omega) (hA.2.2.1 (c + 1) (by omega)) (w_eqN (by unfold rn_b at hb1; omega) (by unfold rn_b at hb2; omega) (fun h9 => w_okZ (Or.inr rfl) (w_some ?_)) (fun h9 => w_okZ (Or.inl rfl) (w_some ?_))))
        · rw [decide_eq_true (show rn_b A c = rn_b A (c + 1) from h9)]
          rfl
        · rw [decide_eq_false (show ¬ rn_b A c = rn_b A (c + 1) from h9)]
          rfl
      · cases e
        have := ih (c + 1) (by omega)
        rw [eCn_s] at this
        by_cases h9 : rn_b A c = rn_b A (c + 1)
        · rw [if_pos h9] at this
          rw [decide_eq_true h9]
          refine w_ifF (by decide) ?_
          refine u_X13_circlesOf_2 ?_; unfold qm_X13_circlesOf_2
          rw [nI_1, nI_1]
          exact this
        · rw [if_neg h9] at this
          rw [decide_eq_false h9]
          refine w_ifT rfl ?_
          refine u_X13_circlesOf_2 ?_; unfold qm_X13_circlesOf_2
          rw [nI_1, Int32.add_zero]
          exact this
  refine e_X13_circlesOf ?_
  refine u_X13_circlesOf_0 ?_; unfold qm_X13_circlesOf_0
  exact key A.length 0 (by omega)
/-- the writhe of the first visits -/
def wrN (A : rn_L) (sg : Nat → Bool) : Nat → Int
  | 0 => 0
  | v + 1 => wrN A sg v + if uns A v = 0 then (if sg (crs A v) then -1 else 1) else 0
theorem wrN_le {A : rn_L} {sg : Nat → Bool} : ∀ v, -((ovs A v).length : Int) ≤ wrN A sg v ∧ wrN A sg v ≤ (ovs A v).length
  | 0 => by
    show -((0 : Nat) : Int) ≤ 0 ∧ (0 : Int) ≤ (0 : Nat)
    decide
  | v + 1 => by
    have ih := wrN_le (A := A) (sg := sg) v
    have e : (ovs A (v + 1)).length = (ovs A v).length + if uns A v = 0 then 1 else 0 := by
      unfold ovs
      rw [List.range_succ, List.filter_append, List.length_append]
      by_cases h : uns A v = 0
      · rw [if_pos h, List.filter_cons_of_pos (p := fun u => decide (uns A u = 0)) (decide_eq_true h)]
        rfl
      · rw [if_neg h, List.filter_cons_of_neg (p := fun u => decide (uns A u = 0)) (by simpa using h)]
        rfl
    rw [e]
    show _ ≤ wrN A sg v + _ ∧ wrN A sg v + _ ≤ _
    by_cases h : uns A v = 0
    · rw [if_pos h, if_pos h]
      cases sg (crs A v) <;> simp <;> omega
    · rw [if_neg h, if_neg h]
      omega
theorem tp_writhe2 {n : Nat} {A : rn_L} {sg : Nat → Bool} (hn : mw_net n) (hA : oNet z n A sg) : Te (fun K => qe_X13_writheOf K n z) (fun r => r = (iI (wrN A sg A.flatten.length), z)) := by
  have hl := hA.len
  have key : ∀ (d v : Nat), v + d = A.flatten.length → Tt (fun K i => q_X13_writheOf K i 1 (iI (wrN A sg v)) (nI v) n 0 0 z) (fun r => r = (iI (wrN A sg A.flatten.length), z)) := by
    intro d
    induction d with
    | zero =>
      intro v hv
      have hv : v = A.flatten.length := by omega
      subst hv
      refine u_X13_writheOf_1 ?_; unfold qm_X13_writheOf_1
      exact w_rdF hA.1.V (w_leT (by omega) (by omega) (w_some rfl))
    | succ d ih =>
      intro v hv
      have hvl : v < A.flatten.length := by omega
      obtain ⟨c1, c2, c3⟩ := hA.cx hvl
      have := ih (v + 1) (by omega)
      have e : wrN A sg (v + 1) = wrN A sg v + if uns A v = 0 then (if sg (crs A v) then -1 else 1) else 0 := rfl
      rw [e, ← iI_add] at this
      refine u_X13_writheOf_1 ?_; unfold qm_X13_writheOf_1
      refine w_rdF hA.1.V (w_leF (by omega) hvl (w_rdI (pl5 hn) rfl (by omega) (lk_cu hA.1 hvl).2 (w_eqN (b := 0) (by omega) (by omega) (fun h9 => w_rdI (pl4 hn) rfl (by omega) (lk_cu hA.1 hvl).1 (w_rdI (pl6 hn) rfl (by omega) c3 ?_)) (fun h9 => ?_))))
      · rw [if_pos h9] at this
        refine u_X13_writheOf_2 ?_; unfold qm_X13_writheOf_2
        rw [nI_1]
        cases hs : sg (crs A v) with
        | true =>
          rw [hs] at this
          exact this
        | false =>
          rw [hs] at this
          exact this
      · rw [if_neg h9] at this
        refine u_X13_writheOf_2 ?_; unfold qm_X13_writheOf_2
        rw [nI_1]
        exact this
  refine e_X13_writheOf ?_
  refine u_X13_writheOf_0 ?_; unfold qm_X13_writheOf_0
  exact key A.flatten.length 0 (by omega)
/-- the term's place in the Jones row -/
theorem jn_ix {l t ze c : Nat} {w : Int} (hl : l ≤ 23) (hl1 : 1 ≤ l) (ht : t < l) (hz : ze ≤ c) (hc : c ≤ 12) (h1 : -12 ≤ w) (h2 : w ≤ 12) : ∃ k, k < 201 ∧ ((((2 * (nI l - 1)) - (4 * nI t)) + nI ze) - (nI c - nI ze) - (3 * iI w)) + 100 = nI k := by
  refine ⟨(2 * ((l : Int) - 1) - 4 * t + ze - (c - ze) - 3 * w + 100).toNat, by omega, ?_⟩
  rw [nI_iI l, nI_iI t, nI_iI ze, nI_iI c]
  show (((iI 2 * (iI l - iI 1)) - (iI 4 * iI t)) + iI ze) - (iI c - iI ze) - (iI 3 * iI w) + iI 100 = _
  rw [iI_sub, iI_mul, iI_mul, iI_sub, iI_add, iI_sub, iI_sub, iI_mul, iI_sub, iI_add]
  exact iI_nI (by omega)
theorem u_X13_makeJones_4 {x2 : Int32} {x3 : Int32} {x4 : Int32} {x5 : Int32} {x10 : Int32} {x11 : Int32} {x12 : Int32} {x13 : Int32} {w6 : Int64} {w8 : Int64} {w14 : Int64} {r1 : Nat} {t2 : Int32} {y0 : Int64} {y1 : Int64} {z : ow_MS} {Q : ow_MS → Prop} (H : Tt (fun K k => qm_X13_makeJones_4 K (q_X13_makeJones K k) x2 x3 x4 x5 x10 x11 x12 x13 w6 w8 w14 r1 t2 y0 y1 z) Q) : Tt (fun K k => q_X13_makeJones K k 4 x2 x3 x4 x5 x10 x11 x12 x13 w6 w8 w14 r1 t2 y0 y1 z) Q := w_un (fun _ _ => rfl) H
theorem u_X13_makeJones_6 {x2 : Int32} {x3 : Int32} {x4 : Int32} {x5 : Int32} {x10 : Int32} {x11 : Int32} {x12 : Int32} {x13 : Int32} {w6 : Int64} {w8 : Int64} {w14 : Int64} {r1 : Nat} {t2 : Int32} {y0 : Int64} {y1 : Int64} {z : ow_MS} {Q : ow_MS → Prop} (H : Tt (fun K k => qm_X13_makeJones_6 K (q_X13_makeJones K k) x2 x3 x4 x5 x10 x11 x12 x13 w6 w8 w14 r1 t2 y0 y1 z) Q) : Tt (fun K k => q_X13_makeJones K k 6 x2 x3 x4 x5 x10 x11 x12 x13 w6 w8 w14 r1 t2 y0 y1 z) Q := w_un (fun _ _ => rfl) H
theorem u_X13_makeJones_7 {x2 : Int32} {x3 : Int32} {x4 : Int32} {x5 : Int32} {x10 : Int32} {x11 : Int32} {x12 : Int32} {x13 : Int32} {w6 : Int64} {w8 : Int64} {w14 : Int64} {r1 : Nat} {t2 : Int32} {y0 : Int64} {y1 : Int64} {z : ow_MS} {Q : ow_MS → Prop} (H : Tt (fun K k => qm_X13_makeJones_7 K (q_X13_makeJones K k) x2 x3 x4 x5 x10 x11 x12 x13 w6 w8 w14 r1 t2 y0 y1 z) Q) : Tt (fun K k => q_X13_makeJones K k 7 x2 x3 x4 x5 x10 x11 x12 x13 w6 w8 w14 r1 t2 y0 y1 z) Q := w_un (fun _ _ => rfl) H
theorem u_X13_makeJones_9 {x2 : Int32} {x3 : Int32} {x4 : Int32} {x5 : Int32} {x10 : Int32} {x11 : Int32} {x12 : Int32} {x13 : Int32} {w6 : Int64} {w8 : Int64} {w14 : Int64} {r1 : Nat} {t2 : Int32} {y0 : Int64} {y1 : Int64} {z : ow_MS} {Q : ow_MS → Prop} (H : Tt (fun K k => qm_X13_makeJones_9 K (q_X13_makeJones K k) x2 x3 x4 x5 x10 x11 x12 x13 w6 w8 w14 r1 t2 y0 y1 z) Q) : Tt (fun K k => q_X13_makeJones K k 9 x2 x3 x4 x5 x10 x11 x12 x13 w6 w8 w14 r1 t2 y0 y1 z) Q := w_un (fun _ _ => rfl) H
theorem u_X13_makeJones_8 {x2 : Int32} {x3 : Int32} {x4 : Int32} {x5 : Int32} {x10 : Int32} {x11 : Int32} {x12 : Int32} {x13 : Int32} {w6 : Int64} {w8 : Int64} {w14 : Int64} {r1 : Nat} {t2 : Int32} {y0 : Int64} {y1 : Int64} {z : ow_MS} {Q : ow_MS → Prop} (H : Tt (fun K k => qm_X13_makeJones_8 K (q_X13_makeJones K k) x2 x3 x4 x5 x10 x11 x12 x13 w6 w8 w14 r1 t2 y0 y1 z) Q) : Tt (fun K k => q_X13_makeJones K k 8 x2 x3 x4 x5 x10 x11 x12 x13 w6 w8 w14 r1 t2 y0 y1 z) Q := w_un (fun _ _ => rfl) H
theorem u_X13_makeJones_5 {x2 : Int32} {x3 : Int32} {x4 : Int32} {x5 : Int32} {x10 : Int32} {x11 : Int32} {x12 : Int32} {x13 : Int32} {w6 : Int64} {w8 : Int64} {w14 : Int64} {r1 : Nat} {t2 : Int32} {y0 : Int64} {y1 : Int64} {z : ow_MS} {Q : ow_MS → Prop} (H : Tt (fun K k => qm_X13_makeJones_5 K (q_X13_makeJones K k) x2 x3 x4 x5 x10 x11 x12 x13 w6 w8 w14 r1 t2 y0 y1 z) Q) : Tt (fun K k => q_X13_makeJones K k 5 x2 x3 x4 x5 x10 x11 x12 x13 w6 w8 w14 r1 t2 y0 y1 z) Q := w_un (fun _ _ => rfl) H
theorem u_X13_makeJones_3 {x2 : Int32} {x3 : Int32} {x4 : Int32} {x5 : Int32} {x10 : Int32} {x11 : Int32} {x12 : Int32} {x13 : Int32} {w6 : Int64} {w8 : Int64} {w14 : Int64} {r1 : Nat} {t2 : Int32} {y0 : Int64} {y1 : Int64} {z : ow_MS} {Q : ow_MS → Prop} (H : Tt (fun K k => qm_X13_makeJones_3 K (q_X13_makeJones K k) x2 x3 x4 x5 x10 x11 x12 x13 w6 w8 w14 r1 t2 y0 y1 z) Q) : Tt (fun K k => q_X13_makeJones K k 3 x2 x3 x4 x5 x10 x11 x12 x13 w6 w8 w14 r1 t2 y0 y1 z) Q := w_un (fun _ _ => rfl) H
theorem u_X13_makeJones_2 {x2 : Int32} {x3 : Int32} {x4 : Int32} {x5 : Int32} {x10 : Int32} {x11 : Int32} {x12 : Int32} {x13 : Int32} {w6 : Int64} {w8 : Int64} {w14 : Int64} {r1 : Nat} {t2 : Int32} {y0 : Int64} {y1 : Int64} {z : ow_MS} {Q : ow_MS → Prop} (H : Tt (fun K k => qm_X13_makeJones_2 K (q_X13_makeJones K k) x2 x3 x4 x5 x10 x11 x12 x13 w6 w8 w14 r1 t2 y0 y1 z) Q) : Tt (fun K k => q_X13_makeJones K k 2 x2 x3 x4 x5 x10 x11 x12 x13 w6 w8 w14 r1 t2 y0 y1 z) Q := w_un (fun _ _ => rfl) H
theorem u_X13_makeJones_1 {x2 : Int32} {x3 : Int32} {x4 : Int32} {x5 : Int32} {x10 : Int32} {x11 : Int32} {x12 : Int32} {x13 : Int32} {w6 : Int64} {w8 : Int64} {w14 : Int64} {r1 : Nat} {t2 : Int32} {y0 : Int64} {y1 : Int64} {z : ow_MS} {Q : ow_MS → Prop} (H : Tt (fun K k => qm_X13_makeJones_1 K (q_X13_makeJones K k) x2 x3 x4 x5 x10 x11 x12 x13 w6 w8 w14 r1 t2 y0 y1 z) Q) : Tt (fun K k => q_X13_makeJones K k 1 x2 x3 x4 x5 x10 x11 x12 x13 w6 w8 w14 r1 t2 y0 y1 z) Q := w_un (fun _ _ => rfl) H
theorem e_X13_makeJones {r1 : Nat} {z : ow_MS} {Q : ow_MS → Prop} (H : Tt (fun K k => q_X13_makeJones K k 0 0 0 0 0 0 0 0 0 0 0 0 r1 0 0 0 z) Q) : Te (fun K => qe_X13_makeJones K r1 z) Q := w_te H
theorem u_X13_makeJones_0 {x2 : Int32} {x3 : Int32} {x4 : Int32} {x5 : Int32} {x10 : Int32} {x11 : Int32} {x12 : Int32} {x13 : Int32} {w6 : Int64} {w8 : Int64} {w14 : Int64} {r1 : Nat} {t2 : Int32} {y0 : Int64} {y1 : Int64} {z : ow_MS} {Q : ow_MS → Prop} (H : Tt (fun K k => qm_X13_makeJones_0 K (q_X13_makeJones K k) x2 x3 x4 x5 x10 x11 x12 x13 w6 w8 w14 r1 t2 y0 y1 z) Q) : Tt (fun K k => q_X13_makeJones K k 0 x2 x3 x4 x5 x10 x11 x12 x13 w6 w8 w14 r1 t2 y0 y1 z) Q := w_un (fun _ _ => rfl) H
theorem tp_makeJones {n : Nat} {A : rn_L} {sg : Nat → Bool} (hn : mw_net n) (hA : oNet z n A sg) : Te (fun K => qe_X13_makeJones K n z) (fun z1 => fr (fun g => g = 47 ∨ g = 48 ∨ g = 51) z z1) := by
  obtain ⟨c, hok, hc⟩ := hA.2.2.1
  have hV := okF_len hok
  have hC := hA.2.2.2
  have hmn := net_mod hn
  have hov := ovs_le hok
  have hw := wrN_le (A := A) (sg := sg) A.flatten.length
  have hne := neC_eC A
  generalize hwn : wrN A sg A.flatten.length = w at hw
  have hw1 : -12 ≤ w := by omega
  have hw2 : w ≤ 12 := by omega
  let Q : ow_MS → Prop := fun z1 => fr (fun g => g = 47 ∨ g = 48 ∨ g = 51) z z1
  have oA : ∀ {y : ow_MS}, fr (fun g => g = 47 ∨ g = 48 ∨ g = 51) z y → oNet y n A sg := fun hf => oNet_fr hf (fun g hg => by omega) hA
  have c4 : ∀ (d l : Nat) (y : ow_MS), l + d = 24 → 1 ≤ l → fr (fun g => g = 47 ∨ g = 48 ∨ g = 51) z y → Tt (fun K i => q_X13_makeJones K i 4 (nI c) (nI (eC A)) (iI w) (nI l) 0 0 0 0 0 0 0 n 0 0 0 y) Q := by
    intro d
    induction d with
    | zero =>
      intro l y hl hl1 hf
      refine u_X13_makeJones_4 ?_; unfold qm_X13_makeJones_4
      exact w_leT (a := 24) (by omega) (by omega) (w_some hf)
    | succ d ih =>
      intro l y hl hl1 hf
      have c6 : ∀ (d2 t : Nat) (w6 w8 : Int64) (y : ow_MS), t + d2 = l → fr (fun g => g = 47 ∨ g = 48 ∨ g = 51) z y → Tt (fun K i => q_X13_makeJones K i 6 (nI c) (nI (eC A)) (iI w) (nI l) (nI t) 0 0 0 w6 w8 0 n 0 0 0 y) Q := by
        intro d2
        induction d2 with
        | zero =>
          intro t w6 w8 y ht hf
          refine u_X13_makeJones_6 ?_; unfold qm_X13_makeJones_6
          rw [nI_1]
          exact w_leT (by omega) (by omega) (ih (l + 1) y (by omega) (by omega) hf)
        | succ d2 ih2 =>
          intro t w6 w8 y ht hf
          have c7 : ∀ (d3 ze : Nat) (y : ow_MS), ze + d3 = c + 1 → fr (fun g => g = 47 ∨ g = 48 ∨ g = 51) z y → Tt (fun K i => q_X13_makeJones K i 7 (nI c) (nI (eC A)) (iI w) (nI l) (nI t) ((2 * (nI l - 1)) - (4 * nI t)) (nI ze) 0 w6 w8 0 n 0 0 0 y) Q := by
            intro d3
            induction d3 with
            | zero =>
              intro ze y hz hf
              have hnz : (nI (t + 1)).toInt64 ≠ 0 := by
                rw [nI_l (by omega)]
                exact fun e => by
                  have := (pk_lEQ (a := t + 1) (b := 0) (by omega) (by omega)).mp e
                  omega
              refine u_X13_makeJones_7 ?_; unfold qm_X13_makeJones_7
              rw [show nI t + 1 = nI (t + 1) from nI_1 _]
              exact w_ltT (by omega) (by omega) (w_nzJ hnz (ih2 (t + 1) _ _ y (by omega) hf))
            | succ d3 ih3 =>
              intro ze y hz hf
              obtain ⟨k, hk, ek⟩ := jn_ix (l := l) (t := t) (ze := ze) (c := c) (w := w) (by omega) hl1 (by omega) (by omega) hc hw1 hw2
              have c9 : ∀ (x13 : Int32) (w14 : Int64) (y : ow_MS), fr (fun g => g = 47 ∨ g = 48 ∨ g = 51) z y → Tt (fun K i => q_X13_makeJones K i 9 (nI c) (nI (eC A)) (iI w) (nI l) (nI t) ((2 * (nI l - 1)) - (4 * nI t)) (nI ze) x13 w6 w8 w14 n 0 0 0 y) Q := by
                intro x13 w14 y hf
                refine u_X13_makeJones_9 ?_; unfold qm_X13_makeJones_9
                rw [show nI ze + 1 = nI (ze + 1) from nI_1 _]
                exact ih3 (ze + 1) y (by omega) hf
              have c8 : ∀ (x13 : Int32) (w14 y0 y1 : Int64) (y : ow_MS), fr (fun g => g = 47 ∨ g = 48 ∨ g = 51) z y → Tt (fun K i => q_X13_makeJones K i 8 (nI c) (nI (eC A)) (iI w) (nI l) (nI t) ((2 * (nI l - 1)) - (4 * nI t)) (nI ze) x13 w6 w8 w14 n (nI k) y0 y1 y) Q := by
                intro x13 w14 y0 y1 y hf
                refine u_X13_makeJones_8 ?_; unfold qm_X13_makeJones_8
                exact w_wrJ ml48 rfl hk (c9 _ _ _ (fr_J2 hf (Or.inr (Or.inl rfl))))
              refine u_X13_makeJones_7 ?_; unfold qm_X13_makeJones_7
              rw [ek]
              refine w_ltF (by omega) (by omega) (w_rdJ (i := 24 * ze + l) ml51 (by rw [show (24 : Int32) * nI ze = nI (24 * ze) from pk_mul 24 ze, nI_add]) (by omega) rfl (w_if (fun _ => c9 _ _ _ hf) (fun _ => w_rdJ ml48 rfl hk rfl (w_if (fun _ => c8 _ _ _ _ _ hf) (fun _ => c8 _ _ _ _ _ hf)))))
          refine u_X13_makeJones_6 ?_; unfold qm_X13_makeJones_6
          exact w_leF (by omega) (by omega) (c7 (c + 1) 0 y (by omega) hf)
      have c5 : ∀ (y0 : Int64), Tt (fun K i => q_X13_makeJones K i 5 (nI c) (nI (eC A)) (iI w) (nI l) 0 0 0 0 0 0 0 n 0 y0 0 y) Q := by
        intro y0
        refine u_X13_makeJones_5 ?_; unfold qm_X13_makeJones_5
        exact c6 l 0 _ _ y (by omega) hf
      refine u_X13_makeJones_4 ?_; unfold qm_X13_makeJones_4
      exact w_leF (a := 24) (by omega) (by omega) (w_if (fun _ => c5 _) (fun _ => c5 _))
  have c3 : ∀ (d k : Nat) (y : ow_MS), k + d = 201 → fr (fun g => g = 47 ∨ g = 48 ∨ g = 51) z y → Tt (fun K i => q_X13_makeJones K i 3 (nI c) (nI (eC A)) (nI k) 0 0 0 0 0 0 0 0 n 0 0 0 y) Q := by
    intro d
    induction d with
    | zero =>
      intro k y hk hf
      refine u_X13_makeJones_3 ?_; unfold qm_X13_makeJones_3
      refine w_ltT (a := 200) (by omega) (by omega) (w_cs1 (tp_writhe2 hn (oA hf)) (fun a y1 e => ?_))
      cases e
      rw [hwn]
      exact c4 23 1 y (by omega) (by omega) hf
    | succ d ih =>
      intro k y hk hf
      refine u_X13_makeJones_3 ?_; unfold qm_X13_makeJones_3
      rw [nI_1]
      exact w_ltF (a := 200) (by omega) (by omega) (w_wrJ ml48 rfl (by omega) (ih (k + 1) _ (by omega) (fr_J2 hf (Or.inr (Or.inl rfl)))))
  have h2c : 2 ^ c ≤ 4096 := two_mono (b := 12) hc
  have c2 : ∀ (d s : Nat) (y : ow_MS), s + d = 2 ^ c → fr (fun g => g = 47 ∨ g = 48 ∨ g = 51) z y → Tt (fun K i => q_X13_makeJones K i 2 (nI c) (nI (eC A)) (nI s) 0 0 0 0 0 0 0 0 n 0 0 0 y) Q := by
    intro d
    induction d with
    | zero =>
      intro s y hs hf
      refine u_X13_makeJones_2 ?_; unfold qm_X13_makeJones_2
      rw [shl1 (by omega)]
      exact w_leT (by omega) (by omega) (c3 201 0 y (by omega) hf)
    | succ d ih =>
      intro s y hs hf
      have hpc := pc_le (c := c) (k := s) (by omega)
      refine u_X13_makeJones_2 ?_; unfold qm_X13_makeJones_2
      rw [shl1 (by omega)]
      refine w_leF (by omega) (by omega) (w_cs0 (tp_loops (st := nI s) hn (oA hf)) (fun y1 ⟨u1, f1⟩ => ?_))
      have hf1 : fr (fun g => g = 47 ∨ g = 48 ∨ g = 51) z y1 := fr_tr hf (fr_mono (fun g hg => Or.inl hg) f1)
      have hlp := loops_le (sg := sg) (st := nI s) hok (by omega)
      refine w_cs1 (tp_countL (oA hf1).1.V (by omega) u1) (fun a y2 e => ?_)
      cases e
      generalize rtsN (lpA A sg (nI s) A.flatten.length) A.flatten.length = r at hlp
      have ei : ((24 : Int32) * (nI c - ow_bc (nI s))) + nI r + nI (eC A) = nI (24 * (c - pc s) + r + eC A) := by
        rw [bc_pc (by omega), pk_sub hpc, show (24 : Int32) * nI (c - pc s) = nI (24 * (c - pc s)) from pk_mul 24 _, nI_add, nI_add]
      rw [ei, nI_1]
      exact w_rdJ ml51 rfl (by omega) rfl (w_wrJ ml51 rfl (by omega) (ih (s + 1) _ (by omega) (fr_J2 hf1 (Or.inr (Or.inr rfl)))))
  have c1 : ∀ (d k : Nat) (y : ow_MS), k + d = 312 → fr (fun g => g = 47 ∨ g = 48 ∨ g = 51) z y → Tt (fun K i => q_X13_makeJones K i 1 (nI c) (nI (eC A)) (nI k) 0 0 0 0 0 0 0 0 n 0 0 0 y) Q := by
    intro d
    induction d with
    | zero =>
      intro k y hk hf
      refine u_X13_makeJones_1 ?_; unfold qm_X13_makeJones_1
      exact w_leT (a := 312) (by omega) (by omega) (c2 (2 ^ c) 0 y (by omega) hf)
    | succ d ih =>
      intro k y hk hf
      refine u_X13_makeJones_1 ?_; unfold qm_X13_makeJones_1
      rw [nI_1]
      exact w_leF (a := 312) (by omega) (by omega) (w_wrJ ml51 rfl (by omega) (ih (k + 1) _ (by omega) (fr_J2 hf (Or.inr (Or.inr rfl)))))
  refine e_X13_makeJones ?_
  refine u_X13_makeJones_0 ?_; unfold qm_X13_makeJones_0
  refine w_rdF hA.1.V (w_nzI (by decide) (w_cs1 (tp_circles2 hn (by omega) (by omega) hA.1.1) (fun a y e => ?_)))
  cases e
  rw [hV, show nI (2 * c) / 2 = nI c from by rw [show nI (2 * c) / 2 = nI (2 * c / 2) from pk_div (d := 2) (by omega) (by omega) (by omega)]; congr 1; omega]
  exact c1 312 0 z (by omega) fr_rf
theorem u_X13_jones_3 {x1 : Int32} {x2 : Int32} {x3 : Int32} {z : ow_MS} {Q : (Int32 × ow_MS) → Prop} (H : Tt (fun K k => qm_X13_jones_3 K (q_X13_jones K k) x1 x2 x3 z) Q) : Tt (fun K k => q_X13_jones K k 3 x1 x2 x3 z) Q := w_un (fun _ _ => rfl) H
theorem u_X13_jones_2 {x1 : Int32} {x2 : Int32} {x3 : Int32} {z : ow_MS} {Q : (Int32 × ow_MS) → Prop} (H : Tt (fun K k => qm_X13_jones_2 K (q_X13_jones K k) x1 x2 x3 z) Q) : Tt (fun K k => q_X13_jones K k 2 x1 x2 x3 z) Q := w_un (fun _ _ => rfl) H
theorem e_X13_jones {x1 : Int32} {x2 : Int32} {z : ow_MS} {Q : (Int32 × ow_MS) → Prop} (H : Tt (fun K k => q_X13_jones K k 0 x1 x2 0 z) Q) : Te (fun K => qe_X13_jones K x1 x2 z) Q := w_te H
theorem u_X13_jones_0 {x1 : Int32} {x2 : Int32} {x3 : Int32} {z : ow_MS} {Q : (Int32 × ow_MS) → Prop} (H : Tt (fun K k => qm_X13_jones_0 K (q_X13_jones K k) x1 x2 x3 z) Q) : Tt (fun K k => q_X13_jones K k 0 x1 x2 x3 z) Q := w_un (fun _ _ => rfl) H
theorem u_X13_jones_1 {x1 : Int32} {x2 : Int32} {x3 : Int32} {z : ow_MS} {Q : (Int32 × ow_MS) → Prop} (H : Tt (fun K k => qm_X13_jones_1 K (q_X13_jones K k) x1 x2 x3 z) Q) : Tt (fun K k => q_X13_jones K k 1 x1 x2 x3 z) Q := w_un (fun _ _ => rfl) H
theorem tp_jones {d k : Int32} (h : gI X z) : Te (fun K => qe_X13_jones K d k z) (fun r => gI X r.2) := by
  have h1 := gI_1 (c := 0) h
  have c3 : ∀ {x1 x2 : Int32} {y : ow_MS}, gI X y → Tt (fun K i => q_X13_jones K i 3 x1 x2 0 y) (fun r => gI X r.2) := by
    intro x1 x2 y hy
    refine u_X13_jones_3 ?_; unfold qm_X13_jones_3
    exact w_some hy
  have c2 : ∀ {x1 x2 : Int32} {y : ow_MS}, gI X y → Tt (fun K i => q_X13_jones K i 2 x1 x2 0 y) (fun r => gI X r.2) := by
    intro x1 x2 y hy
    refine u_X13_jones_2 ?_; unfold qm_X13_jones_2
    refine w_if (fun _ => c3 hy) (fun h0 => w_if (fun h9 => ?_) (fun _ => c3 hy))
    obtain ⟨a, ha, rfl⟩ := i32_rng (x := x2) (c := 100) (by omega) h0 (fun h8 => by
      rw [Int32.lt_iff_toInt_lt] at h8
      rw [Int32.le_iff_toInt_le] at h9
      exact absurd h8 (Int.not_lt.mpr h9))
    rw [show nI a - nI 100 + 100 = nI a from Int32.sub_add_cancel _ _]
    exact w_rdJ ml48 rfl (by omega) rfl (w_some hy)
  refine e_X13_jones ?_
  refine u_X13_jones_0 ?_; unfold qm_X13_jones_0
  refine w_wrF (w_has h1.2.1 (w_ifT rfl (w_fail h1)) (fun e A sg he hx hv hne => w_ifF (by decide) ?_))
  subst hx
  obtain ⟨_, _, ⟨T1, k1⟩, kC⟩ := h1.2.2.2.2.1
  have hTl := hv.1.1
  rw [show (32 : Int32) * nI e = nI (32 * e) from pk_mul 32 e]
  refine w_cs1 (tr_same (o := 32 * e) (p := 0) ml12 ml50 (by omega) (by omega) (by omega) (by omega) hv.1 k1) (fun a y e9 => ?_)
  cases e9
  refine w_if (fun _ => ?_) (fun _ => c2 h1)
  have lp2 : ∀ (dd i : Nat) (y1 y : ow_MS), i + dd = 32 → gI X y1 → y1.2.1 12 = (usF z 1 0).2.1 12 → fr (fun g => g = 50) y1 y → (∀ t, t < i → y.2.1 50 t = y1.2.1 12 (32 * e + t)) → Tt (fun K t => q_X13_jones K t 1 (nI e) k (nI i) y) (fun r => gI X r.2) := by
    intro dd
    induction dd with
    | zero =>
      intro i y1 y hi g1 e12 hf ht
      refine u_X13_jones_1 ?_; unfold qm_X13_jones_1
      refine w_leT (a := 32) (by omega) (by omega) (c2 (gI_cash hf (fun g hg => Or.inl (Or.inr (Or.inr (Or.inl hg)))) ?_ g1))
      obtain ⟨⟨T2, k2⟩, ⟨T3, k3⟩, -, ⟨T4, k4⟩, cc, k5, k6⟩ := g1.2.2.2.2.1
      have hrow : rc_At y1 12 (32 * e) (tk sg A) := by
        obtain ⟨a1, a2, a3, a4⟩ := hv.1
        exact ⟨a1, a2, by rw [e12]; exact a3, fun k t hk => by rw [e12]; exact a4 k t hk⟩
      exact ⟨⟨T2, rc_fr hf (by decide) k2⟩, ⟨T3, rc_fr hf (by decide) k3⟩, ⟨_, rc_cpy hrow (fun t h9 => ht t (by omega))⟩, ⟨T4, rc_fr hf (by decide) k4⟩, cc, k5, by rw [(hf 67 (by decide)).1]; exact k6⟩
    | succ dd ih =>
      intro i y1 y hi g1 e12 hf ht
      refine u_X13_jones_1 ?_; unfold qm_X13_jones_1
      rw [show (32 : Int32) * nI e = nI (32 * e) from pk_mul 32 e, nI_add, nI_1]
      refine w_leF (a := 32) (by omega) (by omega) (w_rdI ml12 rfl (by omega) rfl (w_wrI ml50 rfl (by omega) (ih (i + 1) y1 _ (by omega) g1 e12 (fr_I2 hf rfl) (fun t h9 => ?_))))
      by_cases hti : t = i
      · rw [hti, po_usI_at, (hf 12 (by decide)).2.1]
      · exact rd_ne hti (ht t (by omega))
  refine w_cs0 (to_open pn1 he hv) (fun z2 ⟨o2, f2⟩ => w_cs0 (tp_makeJones pn1 o2) (fun z3 f3 => ?_))
  have hf3 : fr (fun g => 1000 ≤ g ∨ g = 47 ∨ g = 48 ∨ g = 51) (usF z 1 0) z3 := fr_tr (fr_mono (fun g hg => by omega) f2) (fr_mono (fun g hg => by omega) f3)
  exact lp2 32 0 z3 z3 (by omega) (gI_fr hf3 (fun g hg => by unfold per; omega) h1) (hf3 12 (by omega)).2.1 fr_rf (fun t ht => absurd ht (by omega))
end JON
end
section
/-! 99zzzm.arcs -/
/-! the arcs of the reference -/
def inR (y : ow_MS) (h v m : Nat) : Prop := ∃ i, i < m ∧ y.2.1 h v = nI i
theorem inR_mono {y : ow_MS} {h v m k : Nat} (hm : m ≤ k) (h9 : inR y h v m) : inR y h v k := by
  obtain ⟨i, h1, h2⟩ := h9
  exact ⟨i, by omega, h2⟩
theorem inR_fr {P : Nat → Prop} {y y1 : ow_MS} {h v m : Nat} (hf : fr P y y1) (hP : ¬ P h) (h9 : inR y h v m) : inR y1 h v m := by
  obtain ⟨i, h1, h2⟩ := h9
  exact ⟨i, h1, by rw [(hf h hP).2.1]; exact h2⟩
theorem inR_set {y : ow_MS} {h v m i : Nat} (hi : i < m) : inR (usI y h v (nI i)) h v m := ⟨i, hi, po_usI_at⟩
theorem inR_keep {y : ow_MS} {h v m w : Nat} {x : Int32} (h9 : inR y h v m) (hx : ∃ i, i < m ∧ x = nI i) : inR (usI y h w x) h v m := by
  by_cases hv : v = w
  · obtain ⟨i, hi, e⟩ := hx
    rw [hv]
    exact ⟨i, hi, po_usI_at.trans e⟩
  · obtain ⟨i, h1, h2⟩ := h9
    exact ⟨i, h1, rd_ne hv h2⟩
theorem inR_ot {y : ow_MS} {h v m w g : Nat} {x : Int32} (hg : h ≠ g) (h9 : inR y h v m) : inR (usI y g w x) h v m := by
  obtain ⟨i, h1, h2⟩ := h9
  exact ⟨i, h1, rd_ot hg h2⟩
/-- how many visits under stand before v -/
def uN (A : rn_L) : Nat → Nat
  | 0 => 0
  | v + 1 => uN A v + if uns A v = 0 then 0 else 1
theorem uN_mono {A : rn_L} {a : Nat} : ∀ b, a ≤ b → uN A a ≤ uN A b
  | 0, h => by rw [show a = 0 by omega]; exact Nat.le_refl _
  | b + 1, h => by
    by_cases e : a = b + 1
    · rw [e]; exact Nat.le_refl _
    · have := uN_mono (A := A) (a := a) b (by omega)
      show uN A a ≤ uN A b + _
      omega
theorem uN_ov {A : rn_L} : ∀ V, uN A V + (ovs A V).length = V
  | 0 => rfl
  | v + 1 => by
    have ih := uN_ov (A := A) v
    have e : (ovs A (v + 1)).length = (ovs A v).length + if uns A v = 0 then 1 else 0 := by
      unfold ovs
      rw [List.range_succ, List.filter_append, List.length_append]
      by_cases h : uns A v = 0
      · rw [if_pos h, List.filter_cons_of_pos (p := fun u => decide (uns A u = 0)) (decide_eq_true h)]
        rfl
      · rw [if_neg h, List.filter_cons_of_neg (p := fun u => decide (uns A u = 0)) (by simpa using h)]
        rfl
    rw [e]
    show uN A v + _ + _ = _
    by_cases h : uns A v = 0
    · rw [if_pos h, if_pos h]; omega
    · rw [if_neg h, if_neg h]; omega
theorem ok_u {A : rn_L} {c x : Nat} (h : okF A.flatten c) (hx : x < c) (u : Nat) (hu : u < 2) : ∃ t, t < A.flatten.length ∧ crs A t = x ∧ uns A t = u := by
  obtain ⟨t, ht, e⟩ := List.getElem_of_mem ((h.2 (x, u)).mpr ⟨hx, hu⟩)
  refine ⟨t, ht, ?_, ?_⟩
  · unfold crs
    rw [vAt_eq (List.getElem?_eq_getElem ht), e]
  · unfold uns
    rw [vAt_eq (List.getElem?_eq_getElem ht), e]
/-- half the visits are under -/
theorem uN_c {A : rn_L} {c : Nat} (hok : okF A.flatten c) : uN A A.flatten.length ≤ c := by
  have h1 := uN_ov (A := A) A.flatten.length
  have h2 := okF_len hok
  have h3 : c ≤ (ovs A A.flatten.length).length := by
    have := nodup_le (List.range c) ((ovs A A.flatten.length).map (crs A)) List.nodup_range (fun x hx => by
      obtain ⟨t, t1, t2, t3⟩ := ok_u hok (List.mem_range.mp hx) 0 (by omega)
      exact List.mem_map.mpr ⟨t, List.mem_filter.mpr ⟨List.mem_range.mpr t1, decide_eq_true t3⟩, t2⟩)
    rw [List.length_range, List.length_map] at this
    exact this
  omega
/-- what makeArcs leaves: a arcs, and the three of each crossing -/
def arcI (y : ow_MS) (c a : Nat) : Prop := y.1 58 = nI a ∧ ∀ x, x < c → inR y 61 x a ∧ inR y 62 x a ∧ inR y 63 x a
abbrev arcH (g : Nat) : Prop := 58 ≤ g ∧ g ≤ 63
section ARC
variable {z : ow_MS}
theorem u_X13_makeArcs_8 {x2 : Int32} {x3 : Int32} {x4 : Int32} {r1 : Nat} {t0 : Int32} {z : ow_MS} {Q : ow_MS → Prop} (H : Tt (fun K k => qm_X13_makeArcs_8 K (q_X13_makeArcs K k) x2 x3 x4 r1 t0 z) Q) : Tt (fun K k => q_X13_makeArcs K k 8 x2 x3 x4 r1 t0 z) Q := w_un (fun _ _ => rfl) H
theorem u_X13_makeArcs_9 {x2 : Int32} {x3 : Int32} {x4 : Int32} {r1 : Nat} {t0 : Int32} {z : ow_MS} {Q : ow_MS → Prop} (H : Tt (fun K k => qm_X13_makeArcs_9 K (q_X13_makeArcs K k) x2 x3 x4 r1 t0 z) Q) : Tt (fun K k => q_X13_makeArcs K k 9 x2 x3 x4 r1 t0 z) Q := w_un (fun _ _ => rfl) H
theorem u_X13_makeArcs_1 {x2 : Int32} {x3 : Int32} {x4 : Int32} {r1 : Nat} {t0 : Int32} {z : ow_MS} {Q : ow_MS → Prop} (H : Tt (fun K k => qm_X13_makeArcs_1 K (q_X13_makeArcs K k) x2 x3 x4 r1 t0 z) Q) : Tt (fun K k => q_X13_makeArcs K k 1 x2 x3 x4 r1 t0 z) Q := w_un (fun _ _ => rfl) H
theorem u_X13_makeArcs_7 {x2 : Int32} {x3 : Int32} {x4 : Int32} {r1 : Nat} {t0 : Int32} {z : ow_MS} {Q : ow_MS → Prop} (H : Tt (fun K k => qm_X13_makeArcs_7 K (q_X13_makeArcs K k) x2 x3 x4 r1 t0 z) Q) : Tt (fun K k => q_X13_makeArcs K k 7 x2 x3 x4 r1 t0 z) Q := w_un (fun _ _ => rfl) H
theorem u_X13_makeArcs_4 {x2 : Int32} {x3 : Int32} {x4 : Int32} {r1 : Nat} {t0 : Int32} {z : ow_MS} {Q : ow_MS → Prop} (H : Tt (fun K k => qm_X13_makeArcs_4 K (q_X13_makeArcs K k) x2 x3 x4 r1 t0 z) Q) : Tt (fun K k => q_X13_makeArcs K k 4 x2 x3 x4 r1 t0 z) Q := w_un (fun _ _ => rfl) H
theorem u_X13_makeArcs_6 {x2 : Int32} {x3 : Int32} {x4 : Int32} {r1 : Nat} {t0 : Int32} {z : ow_MS} {Q : ow_MS → Prop} (H : Tt (fun K k => qm_X13_makeArcs_6 K (q_X13_makeArcs K k) x2 x3 x4 r1 t0 z) Q) : Tt (fun K k => q_X13_makeArcs K k 6 x2 x3 x4 r1 t0 z) Q := w_un (fun _ _ => rfl) H
theorem u_X13_makeArcs_5 {x2 : Int32} {x3 : Int32} {x4 : Int32} {r1 : Nat} {t0 : Int32} {z : ow_MS} {Q : ow_MS → Prop} (H : Tt (fun K k => qm_X13_makeArcs_5 K (q_X13_makeArcs K k) x2 x3 x4 r1 t0 z) Q) : Tt (fun K k => q_X13_makeArcs K k 5 x2 x3 x4 r1 t0 z) Q := w_un (fun _ _ => rfl) H
theorem u_X13_makeArcs_2 {x2 : Int32} {x3 : Int32} {x4 : Int32} {r1 : Nat} {t0 : Int32} {z : ow_MS} {Q : ow_MS → Prop} (H : Tt (fun K k => qm_X13_makeArcs_2 K (q_X13_makeArcs K k) x2 x3 x4 r1 t0 z) Q) : Tt (fun K k => q_X13_makeArcs K k 2 x2 x3 x4 r1 t0 z) Q := w_un (fun _ _ => rfl) H
theorem u_X13_makeArcs_3 {x2 : Int32} {x3 : Int32} {x4 : Int32} {r1 : Nat} {t0 : Int32} {z : ow_MS} {Q : ow_MS → Prop} (H : Tt (fun K k => qm_X13_makeArcs_3 K (q_X13_makeArcs K k) x2 x3 x4 r1 t0 z) Q) : Tt (fun K k => q_X13_makeArcs K k 3 x2 x3 x4 r1 t0 z) Q := w_un (fun _ _ => rfl) H
theorem e_X13_makeArcs {r1 : Nat} {z : ow_MS} {Q : ow_MS → Prop} (H : Tt (fun K k => q_X13_makeArcs K k 0 0 0 0 r1 0 z) Q) : Te (fun K => qe_X13_makeArcs K r1 z) Q := w_te H
theorem u_X13_makeArcs_0 {x2 : Int32} {x3 : Int32} {x4 : Int32} {r1 : Nat} {t0 : Int32} {z : ow_MS} {Q : ow_MS → Prop} (H : Tt (fun K k => qm_X13_makeArcs_0 K (q_X13_makeArcs K k) x2 x3 x4 r1 t0 z) Q) : Tt (fun K k => q_X13_makeArcs K k 0 x2 x3 x4 r1 t0 z) Q := w_un (fun _ _ => rfl) H
theorem tp_arcs {n c : Nat} {A : rn_L} {sg : Nat → Bool} (hn : mw_net n) (hA : oNet z n A sg) (hok : okF A.flatten c) : Te (fun K => qe_X13_makeArcs K n z) (fun z1 => (∃ a, a ≤ c + A.length ∧ arcI z1 c a) ∧ fr arcH z z1) := by
  have hl := hA.len
  have hC := hA.2.2.2
  have hmn := net_mod hn
  have hV := okF_len hok
  have hUc := uN_c hok
  let Q : ow_MS → Prop := fun z1 => (∃ a, a ≤ c + A.length ∧ arcI z1 c a) ∧ fr arcH z z1
  have oA : ∀ {y : ow_MS}, fr arcH z y → oNet y n A sg := fun hf => oNet_fr hf (fun g hg => by unfold arcH at hg; omega) hA
  have c8 : ∀ (d v a : Nat) (y : ow_MS), v + d = A.flatten.length → a ≤ c + A.length → fr arcH z y → y.1 58 = nI a → (∀ u, u < A.flatten.length → inR y 59 u a ∧ (uns A u ≠ 0 → inR y 60 u a)) → (∀ u, u < v → (uns A u = 0 → inR y 61 (crs A u) a) ∧ (uns A u ≠ 0 → inR y 62 (crs A u) a ∧ inR y 63 (crs A u) a)) → Tt (fun K i => q_X13_makeArcs K i 8 (nI v) 0 0 n 0 y) Q := by
    intro d
    induction d with
    | zero =>
      intro v a y hv ha hf h58 hR hD
      refine u_X13_makeArcs_8 ?_; unfold qm_X13_makeArcs_8
      refine w_rdF (oA hf).1.V (w_leT (by omega) (by omega) (w_some ⟨⟨a, ha, h58, fun x hx => ?_⟩, hf⟩))
      obtain ⟨t, t1, t2, t3⟩ := ok_u hok hx 0 (by omega)
      obtain ⟨s, s1, s2, s3⟩ := ok_u hok hx 1 (by omega)
      have k1 := (hD t (by omega)).1 t3
      have k2 := (hD s (by omega)).2 (by omega)
      rw [t2] at k1
      rw [s2] at k2
      exact ⟨k1, k2⟩
    | succ d ih =>
      intro v a y hv ha hf h58 hR hD
      have hvl : v < A.flatten.length := by omega
      have hO := oA hf
      obtain ⟨c1, c2, c3⟩ := hO.cx hvl
      obtain ⟨⟨i, hi, ei⟩, hB⟩ := hR v hvl
      refine u_X13_makeArcs_8 ?_; unfold qm_X13_makeArcs_8
      refine w_rdF hO.1.V (w_leF (by omega) hvl (w_rdI (pl4 hn) rfl (by omega) (lk_cu hO.1 hvl).1 (w_rdI (pl5 hn) rfl (by omega) (lk_cu hO.1 hvl).2 (w_eqN (b := 0) (by omega) (by omega) (fun h0 => w_rdI ml59 rfl (by omega) ei (w_wrI ml61 rfl (by omega) ?_)) (fun h0 => ?_)))))
      · refine u_X13_makeArcs_9 ?_; unfold qm_X13_makeArcs_9
        rw [nI_1]
        refine ih (v + 1) a _ (by omega) ha (fr_I2 hf (by unfold arcH; omega)) h58 (fun u hu => ⟨inR_ot (by omega) (hR u hu).1, fun h9 => inR_ot (by omega) ((hR u hu).2 h9)⟩) (fun u hu => ⟨fun h9 => ?_, fun h9 => ?_⟩)
        · by_cases huv : u = v
          · rw [huv]; exact inR_set hi
          · exact inR_keep ((hD u (by omega)).1 h9) ⟨i, hi, rfl⟩
        · have huv : u ≠ v := fun e => h9 (by rw [e]; exact h0)
          obtain ⟨k1, k2⟩ := (hD u (by omega)).2 h9
          exact ⟨inR_ot (by omega) k1, inR_ot (by omega) k2⟩
      · obtain ⟨j, hj, ej⟩ := hB h0
        refine w_rdI ml59 rfl (by omega) ei (w_wrI ml62 rfl (by omega) (w_rdI ml60 rfl (by omega) (rd_ot (by omega) ej) (w_wrI ml63 rfl (by omega) ?_)))
        refine u_X13_makeArcs_9 ?_; unfold qm_X13_makeArcs_9
        rw [nI_1]
        refine ih (v + 1) a _ (by omega) ha (fr_I2 (fr_I2 hf (by unfold arcH; omega)) (by unfold arcH; omega)) h58 (fun u hu => ⟨inR_ot (by omega) (inR_ot (by omega) (hR u hu).1), fun h9 => inR_ot (by omega) (inR_ot (by omega) ((hR u hu).2 h9))⟩) (fun u hu => ⟨fun h9 => ?_, fun h9 => ?_⟩)
        · have huv : u ≠ v := fun e => h0 (by rw [← e]; exact h9)
          exact inR_ot (by omega) (inR_ot (by omega) ((hD u (by omega)).1 h9))
        · by_cases huv : u = v
          · rw [huv]
            exact ⟨inR_ot (by omega) (inR_set hi), inR_set hj⟩
          · obtain ⟨k1, k2⟩ := (hD u (by omega)).2 h9
            exact ⟨inR_ot (by omega) (inR_keep k1 ⟨i, hi, rfl⟩), inR_keep (inR_ot (by omega) k2) ⟨j, hj, rfl⟩⟩
  have c1 : ∀ (d k a : Nat) (y : ow_MS), k + d = A.length → a ≤ uN A (rn_b A k) + k → fr arcH z y → y.1 58 = nI a → (∀ u, u < rn_b A k → inR y 59 u a ∧ (uns A u ≠ 0 → inR y 60 u a)) → Tt (fun K i => q_X13_makeArcs K i 1 (nI k) 0 0 n 0 y) Q := by
    intro d
    induction d with
    | zero =>
      intro k a y hk ha hf h58 hR
      have hk : k = A.length := by omega
      subst hk
      rw [rn_b_len] at hR ha
      refine u_X13_makeArcs_1 ?_; unfold qm_X13_makeArcs_1
      exact w_rdF (lk_C (oA hf).1) (w_leT (by omega) (by omega) (c8 A.flatten.length 0 a y (by omega) (by omega) hf h58 hR (fun u hu => absurd hu (by omega))))
    | succ d ih =>
      intro k a y hk ha hf h58 hR
      have hb1 := rn_b_le A k
      have hb2 := rn_b_le A (k + 1)
      have hb3 := rn_b_mono A k
      have c7 : ∀ (x3 x4 : Int32) (a : Nat) (y : ow_MS), a ≤ uN A (rn_b A (k + 1)) + (k + 1) → fr arcH z y → y.1 58 = nI a → (∀ u, u < rn_b A (k + 1) → inR y 59 u a ∧ (uns A u ≠ 0 → inR y 60 u a)) → Tt (fun K i => q_X13_makeArcs K i 7 (nI k) x3 x4 n 0 y) Q := by
        intro x3 x4 a y ha hf h58 hR
        refine u_X13_makeArcs_7 ?_; unfold qm_X13_makeArcs_7
        rw [nI_1]
        exact ih (k + 1) a y (by omega) ha hf h58 hR
      have hUm := uN_mono (A := A) (rn_b A (k + 1)) hb3
      have hUl := uN_mono (A := A) A.flatten.length hb2
      -- a ring without a visit under
      have c4 : ∀ (d v : Nat) (y : ow_MS), v + d = rn_b A (k + 1) → rn_b A k ≤ v → (∀ u, rn_b A k ≤ u → u < rn_b A (k + 1) → uns A u = 0) → fr arcH z y → y.1 58 = nI a → (∀ u, u < v → inR y 59 u (a + 1)) → (∀ u, u < rn_b A k → uns A u ≠ 0 → inR y 60 u (a + 1)) → Tt (fun K i => q_X13_makeArcs K i 4 (nI k) (-1) (nI v) n 0 y) Q := by
        intro d
        induction d with
        | zero =>
          intro v y hv hvb hno hf h58 hR hB
          refine u_X13_makeArcs_4 ?_; unfold qm_X13_makeArcs_4
          rw [nI_1]
          refine w_rdI (pl3 hn) rfl (by omega) (lk_b (oA hf).1 (by omega)) (w_leT (by omega) (by omega) (w_rdF h58 (w_wrF (c7 _ _ (a + 1) _ (by omega) (fr_F2 hf (by unfold arcH; omega)) (po_usF_at.trans (nI_1 a)) (fun u hu => ⟨hR u (by omega), fun h9 => ?_⟩)))))
          rcases Nat.lt_or_ge u (rn_b A k) with h8 | h8
          · exact hB u h8 h9
          · exact absurd (hno u h8 hu) h9
        | succ d ih4 =>
          intro v y hv hvb hno hf h58 hR hB
          refine u_X13_makeArcs_4 ?_; unfold qm_X13_makeArcs_4
          rw [nI_1, nI_1]
          refine w_rdI (pl3 hn) rfl (by omega) (lk_b (oA hf).1 (by omega)) (w_leF (by omega) (by omega) (w_rdF h58 (w_wrI ml59 rfl (by omega) (ih4 (v + 1) _ (by omega) (by omega) hno (fr_I2 hf (by unfold arcH; omega)) h58 (fun u hu => ?_) (fun u hu h9 => inR_ot (by omega) (hB u hu h9))))))
          by_cases huv : u = v
          · rw [huv]; exact inR_set (by omega)
          · exact inR_keep (hR u (by omega)) ⟨a, by omega, rfl⟩
      -- a ring whose first visit under is s
      have c5 : ∀ (s : Nat), rn_b A k ≤ s → s < rn_b A (k + 1) → uns A s = 1 → (∀ u, rn_b A k ≤ u → u < s → uns A u = 0) → ∀ (y : ow_MS), fr arcH z y → y.1 58 = nI a → (∀ u, u < rn_b A k → inR y 59 u a ∧ (uns A u ≠ 0 → inR y 60 u a)) → Tt (fun K i => q_X13_makeArcs K i 5 (nI k) (nI s) (nI s) n 0 y) Q := by
        intro s hs1 hs2 hs3 hs4 y hf h58 hR
        have hUs : uN A (s + 1) = uN A s + 1 := by
          show uN A s + (if uns A s = 0 then 0 else 1) = _
          rw [if_neg (by omega)]
        have hUb := uN_mono (A := A) s hs1
        have hUe := uN_mono (A := A) (a := s + 1) (rn_b A (k + 1)) hs2
        have nx : ∀ v, rn_b A k ≤ v → v < rn_b A (k + 1) → rn_nx A v = if v + 1 < rn_b A (k + 1) then v + 1 else rn_b A k := by
          intro v h1 h2
          have e := rn_c_of A k v h1 h2
          unfold rn_nx
          rw [e]
        -- behind the end of the row: from its beginning to s
        have p2 : ∀ (d v m : Nat) (y : ow_MS), v + d = s → rn_b A k ≤ v → m + uN A (s + 1) ≤ a + uN A (rn_b A (k + 1)) → fr arcH z y → y.1 58 = nI m → (∀ u, u < v → inR y 59 u (m + 1)) → (∀ u, s < u → u < rn_b A (k + 1) → inR y 59 u (m + 1)) → (∀ u, u < rn_b A (k + 1) → uns A u ≠ 0 → inR y 60 u (m + 1)) → Tt (fun K i => q_X13_makeArcs K i 6 (nI k) (nI s) (nI v) n 0 y) Q := by
          intro d
          induction d with
          | zero =>
            intro v m y hv hvb hm hf h58 hR1 hR2 hB
            have hv : v = s := by omega
            subst hv
            refine u_X13_makeArcs_6 ?_; unfold qm_X13_makeArcs_6
            refine w_rdI (pl5 hn) rfl (by omega) (lk_cu (oA hf).1 (by omega)).2 (w_ifF (by rw [hs3]; decide) (w_rdF h58 (w_wrI ml59 rfl (by omega) (w_rdF (x := nI m) h58 (w_wrF (w_ifT rfl (c7 _ _ (m + 1) _ (by omega) (fr_F2 (fr_I2 hf (by unfold arcH; omega)) (by unfold arcH; omega)) (po_usF_at.trans (nI_1 m)) (fun u hu => ⟨?_, fun h9 => ?_⟩))))))))
            · show inR (usI y 59 v (nI m)) 59 u (m + 1)
              by_cases huv : u = v
              · rw [huv]; exact inR_set (by omega)
              · rcases Nat.lt_or_ge u v with h8 | h8
                · exact inR_keep (hR1 u h8) ⟨m, by omega, rfl⟩
                · exact inR_keep (hR2 u (by omega) hu) ⟨m, by omega, rfl⟩
            · show inR (usI y 59 v (nI m)) 60 u (m + 1)
              exact inR_ot (by omega) (hB u hu h9)
          | succ d ih2 =>
            intro v m y hv hvb hm hf h58 hR1 hR2 hB
            have e0 := hs4 v hvb (by omega)
            have en := nx v hvb (by omega)
            rw [if_pos (by omega)] at en
            have hf2 : fr arcH z (usI y 59 v (nI m)) := fr_I2 hf (by unfold arcH; omega)
            have hnx : (usI y 59 v (nI m)).2.1 (n + 9) v = nI (v + 1) := by
              rw [lk_n (oA hf2).1 (by omega), en]
            refine u_X13_makeArcs_6 ?_; unfold qm_X13_makeArcs_6
            refine w_rdI (pl5 hn) rfl (by omega) (lk_cu (oA hf).1 (by omega)).2 (w_ifT (by rw [e0]; rfl) (w_rdF h58 (w_wrI ml59 rfl (by omega) (w_rdI (pl9 hn) rfl (by omega) hnx (ih2 (v + 1) m _ (by omega) (by omega) hm hf2 h58 (fun u hu => ?_) (fun u h1 h2 => inR_keep (hR2 u h1 h2) ⟨m, by omega, rfl⟩) (fun u hu h9 => inR_ot (by omega) (hB u hu h9)))))))
            by_cases huv : u = v
            · rw [huv]; exact inR_set (by omega)
            · exact inR_keep (hR1 u (by omega)) ⟨m, by omega, rfl⟩
        -- before the end of the row
        have p1 : ∀ (d v m : Nat) (y : ow_MS), v + d = rn_b A (k + 1) → s < v → m + uN A (s + 1) ≤ a + uN A v → fr arcH z y → y.1 58 = nI m → (∀ u, u < rn_b A k → inR y 59 u (m + 1)) → (∀ u, s < u → u < v → inR y 59 u (m + 1)) → (∀ u, u < v → uns A u ≠ 0 → inR y 60 u (m + 1)) → Tt (fun K i => q_X13_makeArcs K i 6 (nI k) (nI s) (if v < rn_b A (k + 1) then nI v else nI (rn_b A k)) n 0 y) Q := by
          intro d
          induction d with
          | zero =>
            intro v m y hv hsv hm hf h58 hR1 hR2 hB
            rw [if_neg (by omega)]
            have hv : v = rn_b A (k + 1) := by omega
            subst hv
            exact p2 (s - rn_b A k) (rn_b A k) m y (by omega) (Nat.le_refl _) hm hf h58 hR1 hR2 hB
          | succ d ih1 =>
            intro v m y hv hsv hm hf h58 hR1 hR2 hB
            rw [if_pos (by omega)]
            have en := nx v (by omega) (by omega)
            have hUv : uN A (v + 1) = uN A v + if uns A v = 0 then 0 else 1 := rfl
            have hUv2 := uN_mono (A := A) (rn_b A (k + 1)) (show v + 1 ≤ rn_b A (k + 1) by omega)
            have eN : nI (rn_nx A v) = if v + 1 < rn_b A (k + 1) then nI (v + 1) else nI (rn_b A k) := by
              rw [en]
              split <;> rfl
            have hf2 : fr arcH z (usI y 59 v (nI m)) := fr_I2 hf (by unfold arcH; omega)
            by_cases e0 : uns A v = 0
            · have hnx : (usI y 59 v (nI m)).2.1 (n + 9) v = if v + 1 < rn_b A (k + 1) then nI (v + 1) else nI (rn_b A k) := by
                rw [lk_n (oA hf2).1 (by omega), eN]
              rw [if_pos e0] at hUv
              refine u_X13_makeArcs_6 ?_; unfold qm_X13_makeArcs_6
              refine w_rdI (pl5 hn) rfl (by omega) (lk_cu (oA hf).1 (by omega)).2 (w_ifT (by rw [e0]; rfl) (w_rdF h58 (w_wrI ml59 rfl (by omega) (w_rdI (pl9 hn) rfl (by omega) hnx (ih1 (v + 1) m _ (by omega) (by omega) (by omega) hf2 h58 (fun u hu => inR_keep (hR1 u hu) ⟨m, by omega, rfl⟩) (fun u h1 h2 => ?_) (fun u hu h9 => ?_))))))
              · by_cases huv : u = v
                · rw [huv]; exact inR_set (by omega)
                · exact inR_keep (hR2 u h1 (by omega)) ⟨m, by omega, rfl⟩
              · by_cases huv : u = v
                · rw [huv] at h9
                  exact absurd e0 h9
                · exact inR_ot (by omega) (hB u (by omega) h9)
            · rw [if_neg e0] at hUv
              have hu2 := ((oA hf).cx (i := v) (by omega)).2.1
              refine u_X13_makeArcs_6 ?_; unfold qm_X13_makeArcs_6
              refine w_rdI (pl5 hn) rfl (by omega) (lk_cu (oA hf).1 (by omega)).2 (w_ifF (fun h9 => e0 ((nI_eq (by omega) (by omega)).mp (h9.trans nI_0.symm))) (w_rdF h58 (w_wrI ml59 rfl (by omega) (w_rdF (x := nI m) h58 (w_wrF (w_ifF (fun h9 => absurd ((nI_eq (by omega) (by omega)).mp h9) (by omega)) ?_))))))
              have hf3 : fr arcH z (usF (usI y 59 v (nI m)) 58 (nI m + 1)) := fr_F2 hf2 (by unfold arcH; omega)
              have hf4 : fr arcH z (usI (usF (usI y 59 v (nI m)) 58 (nI m + 1)) 60 v (nI (m + 1))) := fr_I2 hf3 (by unfold arcH; omega)
              have hnx : (usI (usF (usI y 59 v (nI m)) 58 (nI m + 1)) 60 v (nI (m + 1))).2.1 (n + 9) v = if v + 1 < rn_b A (k + 1) then nI (v + 1) else nI (rn_b A k) := by
                rw [lk_n (oA hf4).1 (by omega), eN]
              have h58' : (usI (usF (usI y 59 v (nI m)) 58 (nI m + 1)) 60 v (nI (m + 1))).1 58 = nI (m + 1) := by
                show (usF (usI y 59 v (nI m)) 58 (nI m + 1)).1 58 = _
                exact po_usF_at.trans (nI_1 m)
              refine u_X13_makeArcs_5 ?_; unfold qm_X13_makeArcs_5
              refine w_rdF (x := nI (m + 1)) (po_usF_at.trans (nI_1 m)) (w_wrI ml60 rfl (by omega) (w_rdI (pl9 hn) rfl (by omega) hnx (ih1 (v + 1) (m + 1) _ (by omega) (by omega) (by omega) hf4 h58' (fun u hu => ?_) (fun u h1 h2 => ?_) (fun u hu h9 => ?_))))
              · exact inR_ot (by omega) (show inR (usI y 59 v (nI m)) 59 u (m + 1 + 1) from inR_keep (inR_mono (by omega) (hR1 u hu)) ⟨m, by omega, rfl⟩)
              · refine inR_ot (by omega) (show inR (usI y 59 v (nI m)) 59 u (m + 1 + 1) from ?_)
                by_cases huv : u = v
                · rw [huv]; exact inR_set (by omega)
                · exact inR_keep (inR_mono (by omega) (hR2 u h1 (by omega))) ⟨m, by omega, rfl⟩
              · by_cases huv : u = v
                · rw [huv]; exact inR_set (by omega)
                · exact inR_keep (show inR (usI y 59 v (nI m)) 60 u (m + 1 + 1) from inR_ot (by omega) (inR_mono (by omega) (hB u (by omega) h9))) ⟨m + 1, by omega, rfl⟩
        have hf2 : fr arcH z (usI y 60 s (nI a)) := fr_I2 hf (by unfold arcH; omega)
        have en := nx s hs1 hs2
        have hnx : (usI y 60 s (nI a)).2.1 (n + 9) s = if s + 1 < rn_b A (k + 1) then nI (s + 1) else nI (rn_b A k) := by
          rw [lk_n (oA hf2).1 (by omega), en]
          split <;> rfl
        refine u_X13_makeArcs_5 ?_; unfold qm_X13_makeArcs_5
        refine w_rdF h58 (w_wrI ml60 rfl (by omega) (w_rdI (pl9 hn) rfl (by omega) hnx (p1 (rn_b A (k + 1) - (s + 1)) (s + 1) a _ (by omega) (by omega) (by omega) hf2 h58 (fun u hu => inR_ot (by omega) (inR_mono (by omega) (hR u hu).1)) (fun u h1 h2 => absurd h1 (by omega)) (fun u hu h9 => ?_))))
        by_cases hus : u = s
        · rw [hus]; exact inR_set (by omega)
        · rcases Nat.lt_or_ge u (rn_b A k) with h8 | h8
          · exact inR_keep (inR_mono (by omega) ((hR u h8).2 h9)) ⟨a, by omega, rfl⟩
          · exact absurd (hs4 u h8 (by omega)) h9
      -- the first visit under is looked for from the end on
      have c2 : ∀ (d i : Nat) (x3 : Int32), i = rn_b A k + d → i ≤ rn_b A (k + 1) → ((x3 = -1 ∧ ∀ u, i ≤ u → u < rn_b A (k + 1) → uns A u = 0) ∨ ∃ s, x3 = nI s ∧ i ≤ s ∧ s < rn_b A (k + 1) ∧ uns A s = 1 ∧ ∀ u, i ≤ u → u < s → uns A u = 0) → Tt (fun K t => q_X13_makeArcs K t 2 (nI k) x3 (iI ((i : Int) - 1)) n 0 y) Q := by
        intro d
        induction d with
        | zero =>
          intro i x3 hi hie hx
          refine u_X13_makeArcs_2 ?_; unfold qm_X13_makeArcs_2
          refine w_rdI (pl3 hn) rfl (by omega) (lk_b (oA hf).1 (by omega)) (w_ifT (by rw [nI_iI, iI_lt (by omega) (by omega) (by omega) (by omega)]; omega) ?_)
          rcases hx with ⟨hx, hno⟩ | ⟨s, hx, s1, s2, s3, s4⟩
          · rw [hx]
            refine w_ifT rfl (w_rdI (pl3 hn) rfl (by omega) (lk_b (oA hf).1 (by omega)) (c4 (rn_b A (k + 1) - rn_b A k) (rn_b A k) y (by omega) (Nat.le_refl _) (fun u h1 h2 => hno u (by omega) h2) hf h58 (fun u hu => inR_mono (by omega) (hR u hu).1) (fun u hu h9 => inR_mono (by omega) ((hR u hu).2 h9))))
          · rw [hx]
            exact w_ifF (rn_neg1 (by omega)) (c5 s (by omega) s2 s3 (fun u h1 h2 => s4 u (by omega) h2) y hf h58 hR)
        | succ d ih2 =>
          intro i x3 hi hie hx
          obtain ⟨j, hj⟩ : ∃ j, i = j + 1 := ⟨i - 1, by omega⟩
          have e1 : iI ((i : Int) - 1) = nI j := iI_nI (by omega)
          have e2 : nI j + (-1) = iI ((j : Int) - 1) := by
            rw [nI_iI]
            show iI (j : Int) + iI (-1) = _
            rw [iI_add]
            rfl
          have hu2 := ((oA hf).cx (i := j) (by omega)).2.1
          rw [e1]
          refine u_X13_makeArcs_2 ?_; unfold qm_X13_makeArcs_2
          refine w_rdI (pl3 hn) rfl (by omega) (lk_b (oA hf).1 (by omega)) (w_ltF (by omega) (by omega) (w_rdI (pl5 hn) rfl (by omega) (lk_cu (oA hf).1 (by omega)).2 (w_eqN (b := 1) (by omega) (by omega) (fun h9 => ?_) (fun h9 => ?_))))
          · refine u_X13_makeArcs_3 ?_; unfold qm_X13_makeArcs_3
            rw [e2]
            refine ih2 j _ (by omega) (by omega) (Or.inr ⟨j, rfl, Nat.le_refl _, by omega, h9, fun u h1 h2 => absurd h1 (by omega)⟩)
          · refine u_X13_makeArcs_3 ?_; unfold qm_X13_makeArcs_3
            rw [e2]
            refine ih2 j _ (by omega) (by omega) ?_
            rcases hx with ⟨hx, hno⟩ | ⟨s, hx, s1, s2, s3, s4⟩
            · refine Or.inl ⟨hx, fun u h1 h2 => ?_⟩
              by_cases huj : u = j
              · rw [huj]; omega
              · exact hno u (by omega) h2
            · refine Or.inr ⟨s, hx, by omega, s2, s3, fun u h1 h2 => ?_⟩
              by_cases huj : u = j
              · rw [huj]; omega
              · exact s4 u (by omega) h2
      refine u_X13_makeArcs_1 ?_; unfold qm_X13_makeArcs_1
      rw [nI_1]
      refine w_rdF (lk_C (oA hf).1) (w_leF (by omega) (by omega) (w_rdI (pl3 hn) rfl (by omega) (lk_b (oA hf).1 (by omega)) ?_))
      rw [show nI (rn_b A (k + 1)) - 1 = iI ((rn_b A (k + 1) : Nat) - 1) from by rw [nI_iI]; exact iI_sub _ 1]
      exact c2 (rn_b A (k + 1) - rn_b A k) (rn_b A (k + 1)) (-1) (by omega) (Nat.le_refl _) (Or.inl ⟨rfl, fun u h1 h2 => absurd h1 (by omega)⟩)
  refine e_X13_makeArcs ?_
  refine u_X13_makeArcs_0 ?_; unfold qm_X13_makeArcs_0
  refine w_wrF (c1 A.length 0 0 _ (by omega) (Nat.zero_le _) (fr_F (by unfold arcH; omega)) po_usF_at (fun u hu => absurd hu (by simp [rn_b])))
end ARC
end
