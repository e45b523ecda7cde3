/-! exact: moves of kind 1 and 3 of the reference -/
def O1 (A : rn_L) (sg : Nat → Bool) (c : Nat) (A' : rn_L) (sg' : Nat → Bool) : Prop := ∃ g k, isG A g ∧ k < 4 ∧ A' = bldA A (insG g 1000 [(c, k % 2), (c, 1 - k % 2)] []) ∧ sg' = fun i => if i = c then decide (2 ≤ k) else sg i
def t3P (c k : Nat) : List vT := [(if k / 4 = 0 then c + k % 2 else c + k / 2 % 2, k / 4), (if k / 4 = 0 then 2 * c + 1 - (c + k % 2) else 2 * c + 1 - (c + k / 2 % 2), k / 4)]
def t3Q (c k : Nat) : List vT := [(if k / 4 = 0 then c + k / 2 % 2 else c + k % 2, 1 - k / 4), (if k / 4 = 0 then 2 * c + 1 - (c + k / 2 % 2) else 2 * c + 1 - (c + k % 2), 1 - k / 4)]
def t3A (A : rn_L) (c g h k : Nat) : rn_L := bldA A (insG g h (t3P c k) (t3Q c k))
def t3S (sg : Nat → Bool) (c : Nat) : Nat → Bool := fun i => if i = c then false else if i = c + 1 then true else sg i
def O3 (A : rn_L) (sg : Nat → Bool) (c : Nat) (A' : rn_L) (sg' : Nat → Bool) : Prop := ∃ g h k, isG A g ∧ isG A h ∧ (k < 4 ∨ g = h ∧ k < 8) ∧ A' = t3A A c g h k ∧ sg' = t3S sg c ∧ plnA A' sg'
theorem isG_lt {A : rn_L} {g : Nat} (h : isG A g) : g < A.flatten.length + A.length := by
  rcases h with h | ⟨h1, h2, -⟩ <;> omega
theorem okB_two {c u : Nat} (hu : u < 2) : okB [(c, u), (c, 1 - u)] c 1 := by
  refine ⟨?_, fun p => ?_⟩
  · refine List.nodup_cons.mpr ⟨fun h => ?_, List.nodup_cons.mpr ⟨List.not_mem_nil, List.nodup_nil⟩⟩
    have := congrArg Prod.snd (List.mem_singleton.mp h)
    have this : u = 1 - u := this
    omega
  · rw [List.mem_cons, List.mem_singleton]
    constructor
    · rintro (h | h) <;> rw [h]
      · exact ⟨Nat.le_refl _, by show c < c + 1; omega, hu⟩
      · exact ⟨Nat.le_refl _, by show c < c + 1; omega, by show 1 - u < 2; omega⟩
    · rintro ⟨h1, h2, h3⟩
      have e1 : p.1 = c := by omega
      rcases (show p.2 = u ∨ p.2 = 1 - u by omega) with e | e
      · exact Or.inl (Prod.ext e1 e)
      · exact Or.inr (Prod.ext e1 e)
theorem okB_F {F G : List vT} {c d : Nat} (h1 : okF F c) (h2 : okB G c d) : okF (F ++ G) (c + d) := okB_0.mp (okB_app (okB_0.mpr h1) (by rw [Nat.zero_add]; exact h2))
section XK1
variable {Φ : ow_MS → (List Nat → Prop) → Nat → Prop} {n L c : Nat} {z : ow_MS} {A : rn_L} {sg : Nat → Bool} {S : List Nat → Prop}
theorem o1_ok {g k : Nat} (hok : okF A.flatten c) (hA : A.length ≤ 6) (h20 : A.flatten.length ≤ 24) (hg : isG A g) (hk : k < 4) : okF (bldA A (insG g 1000 [(c, k % 2), (c, 1 - k % 2)] [])).flatten (c + 1) := by
  have hlt := isG_lt hg
  have h9 : ¬ 1000 ∈ gpsA A A.length := fun h => by
    have := isG_lt (gps_mem.mp h)
    omega
  have p := bld_perm (h := 1000) (P0 := [(c, k % 2), (c, 1 - k % 2)]) (P1 := []) hg
  rw [if_neg h9, List.append_nil] at p
  exact okF_pm p (okB_F hok (okB_two (by omega)))
theorem xr_oneComes (hΦ : snkF Φ) (hn : mw_net n) (hn3 : n ≠ 3000) (hok : okF A.flatten c) (hV : A.flatten.length ≤ 22) (hL : L + 4 * (A.flatten.length + A.length) ≤ 2700) (hO : oNet z n A sg) (h : Φ z S L) : Te (fun K => qe_X13_oneComes K n z) (fun z1 => (∃ S', adS S S' (O1 A sg c) ∧ Φ z1 S' (L + 4 * (A.flatten.length + A.length))) ∧ fr frB z z1) := by
  have hmn := net_mod hn
  have hC := hO.2.2.2
  have hVc := okF_len hok
  obtain ⟨V, hVe⟩ : ∃ V, V = A.flatten.length := ⟨_, rfl⟩
  let O : Nat → Nat → rn_L → (Nat → Bool) → Prop := fun g0 k0 A' sg' => ∃ g k, isG A g ∧ (g < g0 ∧ k < 4 ∨ g = g0 ∧ k < k0) ∧ k < 4 ∧ A' = bldA A (insG g 1000 [(c, k % 2), (c, 1 - k % 2)] []) ∧ sg' = fun i => if i = c then decide (2 ≤ k) else sg i
  let Q : ow_MS → Prop := fun z1 => (∃ S', adS S S' (O1 A sg c) ∧ Φ z1 S' (L + 4 * (A.flatten.length + A.length))) ∧ fr frB z z1
  have ed : nI A.flatten.length / 2 = nI c := by
    rw [show nI A.flatten.length / 2 = nI (A.flatten.length / 2) from pk_div (d := 2) (by omega) (by omega) (by omega)]
    congr 1
    omega
  have outer : ∀ (d g : Nat) (y : ow_MS), g + d = V + A.length → fr frB z y → (∃ S1, adS S S1 (O g 0) ∧ Φ y S1 (L + 4 * g)) → Tt (fun K i => q_X13_oneComes K i 1 (nI c) (nI g) 0 n 0 0 y) Q := by
    intro d
    induction d with
    | zero =>
      intro g y hg hf ⟨S1, a1, a2⟩
      have o2 := oNet_B hn hn3 hf hO
      refine u_X13_oneComes_1 ?_; unfold qm_X13_oneComes_1
      refine w_rdF o2.1.V (w_rdF (lk_C o2.1) ?_)
      rw [nI_add]
      refine w_leT (by omega) (by omega) (w_some ⟨⟨S1, adS_eq a1 (fun A' sg' => ?_), hΦ.2.2 _ _ _ _ (by omega) a2⟩, hf⟩)
      constructor
      · rintro ⟨g1, k1, h1, -, h3, h4, h5⟩
        exact ⟨g1, k1, h1, h3, h4, h5⟩
      · rintro ⟨g1, k1, h1, h3, h4, h5⟩
        have := isG_lt h1
        exact ⟨g1, k1, h1, Or.inl ⟨by omega, h3⟩, h3, h4, h5⟩
    | succ d ih =>
      intro g y hg hf h0
      have c4 : ∀ (x4 : Int32) (y : ow_MS), fr frB z y → (∃ S1, adS S S1 (O (g + 1) 0) ∧ Φ y S1 (L + 4 * (g + 1))) → Tt (fun K i => q_X13_oneComes K i 4 (nI c) (nI g) x4 n 0 0 y) Q := by
        intro x4 y hf ho
        refine u_X13_oneComes_4 ?_; unfold qm_X13_oneComes_4
        rw [nI_1]
        exact ih (g + 1) y (by omega) hf ho
      have inn : ∀ (d k : Nat) (y : ow_MS), k + d = 4 → fr frB z y → (∃ S1, adS S S1 (O g k) ∧ Φ y S1 (L + 4 * g + k)) → Tt (fun K i => q_X13_oneComes K i 2 (nI c) (nI g) (nI k) n 0 0 y) Q := by
        intro d
        induction d with
        | zero =>
          intro k y hk hf ⟨S1, a1, a2⟩
          have hk4 : k = 4 := by omega
          subst hk4
          refine u_X13_oneComes_2 ?_; unfold qm_X13_oneComes_2
          refine w_leT (a := 4) (by omega) (by omega) (c4 _ y hf ⟨S1, adS_eq a1 (fun A' sg' => ?_), hΦ.2.2 _ _ _ _ (by omega) a2⟩)
          constructor
          · rintro ⟨g1, k1, h1, h2, h3⟩
            exact ⟨g1, k1, h1, by omega, h3⟩
          · rintro ⟨g1, k1, h1, h2, h3⟩
            exact ⟨g1, k1, h1, by omega, h3⟩
        | succ d ihd =>
          intro k y hk hf ⟨S1, a1, a2⟩
          have o2 := oNet_B hn hn3 hf hO
          refine u_X13_oneComes_2 ?_; unfold qm_X13_oneComes_2
          refine w_leF (a := 4) (by omega) (by omega) (w_cs1 (tp_isGap hn o2 (by omega)) (fun a y9 ⟨e, h9⟩ => ?_))
          have e : y9 = y := e
          subst e
          rcases h9 with ⟨h9, hng⟩ | ⟨h9, hig⟩
          · have h9 : a = 0 := h9
            refine w_ifT h9 (c4 _ y9 hf ⟨S1, adS_eq a1 (fun A' sg' => ?_), hΦ.2.2 _ _ _ _ (by omega) a2⟩)
            constructor
            · rintro ⟨g1, k1, h1, h2, h3⟩
              exact ⟨g1, k1, h1, by omega, h3⟩
            · rintro ⟨g1, k1, h1, h2, h3⟩
              refine ⟨g1, k1, h1, ?_, h3⟩
              by_cases eg : g1 = g
              · rw [eg] at h1
                exact absurd h1 hng
              · omega
          · have h9 : a = 1 := h9
            refine w_ifF (by rw [h9]; decide) ?_
            rw [rn_and1 (by omega), show (1 : Int32) - nI (k % 2) = nI (1 - k % 2) from pk_sub (a := 1) (by omega)]
            refine w_cs0 (tp_put (i := 0) (by omega)) (fun y1 e1 => w_cs0 (tp_put (i := 1) (by omega)) (fun y2 e2 => ?_))
            subst e1
            subst e2
            have f31 : fr (fun g => g = 31 ∨ g = 32) y9 (usI (usI (usI (usI y9 31 0 (nI c)) 32 0 (nI (k % 2))) 31 1 (nI c)) 32 1 (nI (1 - k % 2))) := fr_I2 (fr_I2 (fr_I2 (fr_I (Or.inl rfl)) (Or.inr rfl)) (Or.inl rfl)) (Or.inr rfl)
            have o3 := oNet_fr f31 (fun g hg => by omega) o2
            refine w_cs0 (xr_build (g := g) (h := 1000) (p0 := (c, k % 2)) (p1 := (c, 1 - k % 2)) (p2 := (0, 0)) (p3 := (0, 0)) hn hn3 o3 (by omega) (Or.inr rfl) neg_x3 ⟨rd_ot (by decide) (rd_ne (by decide) (rd_ot (by decide) po_usI_at)), rd_ne (by decide) (rd_ot (by decide) po_usI_at), rd_ot (by decide) po_usI_at, po_usI_at⟩ (fun h8 => by omega)) (fun y3 ⟨b3, f3, s3⟩ => ?_)
            have eb : bldA A (insG g 1000 [(c, k % 2), (c, 1 - k % 2)] [(0, 0), (0, 0)]) = bldA A (insG g 1000 [(c, k % 2), (c, 1 - k % 2)] []) := bldA_cg (fun gp hgp => by
              unfold insG
              rw [if_neg (show ¬ gp = 1000 by omega), if_neg (show ¬ gp = 1000 by omega)])
            rw [eb] at b3
            have ok1 := o1_ok hok hC (by omega) hig (show k < 4 by omega)
            have hl1 := okF_len ok1
            have lenA : (bldA A (insG g 1000 [(c, k % 2), (c, 1 - k % 2)] [])).length = A.length := by
              unfold bldA
              rw [List.length_map, List.length_range]
            have fin : ∀ t0 : Int32, t0 = (if decide (2 ≤ k) = true then -1 else 1) → Tt (fun K i => q_X13_oneComes K i 3 (nI c) (nI g) (nI k) n t0 (nI c) y3) Q := by
              intro t0 ht0
              have F3 : fr (fun g => 31 ≤ g ∧ g ≤ 34 ∨ 1000 ≤ g) y9 (usI y3 3006 c t0) := fr_I2 (fr_tr (fr_mono (fun g hg => by omega) f31) (fr_mono (fun g hg => by omega) f3)) (by omega)
              have FB : fr frB z (usI y3 3006 c t0) := fr_I2 (fr_tr hf (fr_tr (fr_mono (fun g hg => by unfold frB; omega) f31) (fr_mono (fun g hg => by unfold frB; omega) f3))) (by unfold frB; omega)
              refine u_X13_oneComes_3 ?_; unfold qm_X13_oneComes_3
              rw [nI_1]
              refine w_wrI (pl6 pn3) rfl (by omega) (w_cs0 (hΦ.2.1 _ S1 _ _ (fun i => if i = c then decide (2 ≤ k) else sg i) (by omega) (hΦ.1 _ _ _ _ _ F3 (fun g hg => hg) a2) (fr_At (P := fun g => g = 3006) (fr_I rfl) (fun g hg => by omega) b3) (fun p hp => ?_) (okF_wk (by omega) ok1) (by omega) (by rw [lenA]; exact hC)) (fun y5 ⟨⟨S2, k0, k1⟩, k2⟩ => ihd (k + 1) y5 (by omega) (fr_tr FB (fr_mono (fun g hg => by unfold frO at hg; unfold frB; omega) k2)) ⟨S2, adS_eq (adS_tr a1 k0) (fun A' sg' => ?_), hΦ.2.2 _ _ _ _ (by omega) k1⟩))
              · have hp1 := ((ok1.2 p).mp hp).1
                show (usI y3 3006 c t0).2.1 3006 p.1 = if (if p.1 = c then decide (2 ≤ k) else sg p.1) = true then -1 else 1
                by_cases ep : p.1 = c
                · rw [ep, if_pos rfl, po_usI_at]
                  exact ht0
                · rw [if_neg ep]
                  refine rd_ne ep ?_
                  rw [s3 p.1 (by omega)]
                  exact o3.2.1 (p.1, 0) ((hok.2 _).mpr ⟨by show p.1 < c; omega, by show 0 < 2; omega⟩)
              · constructor
                · rintro (⟨g1, k1, h1, h2, h3⟩ | ⟨e1, e2⟩)
                  · exact ⟨g1, k1, h1, by omega, h3⟩
                  · exact ⟨g, k, hig, by omega, by omega, e1, e2⟩
                · rintro ⟨g1, k1, h1, h2, h3, h4, h5⟩
                  by_cases eg : g1 = g ∧ k1 = k
                  · rw [eg.1, eg.2] at h4
                    rw [eg.2] at h5
                    exact Or.inr ⟨h4, h5⟩
                  · exact Or.inl ⟨g1, k1, h1, by omega, h3, h4, h5⟩
            refine w_le (a := 2) (by omega) (by omega) (fun h8 => fin (-1) ?_) (fun h8 => fin 1 ?_)
            · rw [decide_eq_true h8]
              rfl
            · rw [decide_eq_false (by omega)]
              rfl
      have o2 := oNet_B hn hn3 hf hO
      refine u_X13_oneComes_1 ?_; unfold qm_X13_oneComes_1
      refine w_rdF o2.1.V (w_rdF (lk_C o2.1) ?_)
      rw [nI_add]
      exact w_leF (by omega) (by omega) (inn 4 0 y (by omega) hf h0)
  refine e_X13_oneComes ?_
  refine u_X13_oneComes_0 ?_; unfold qm_X13_oneComes_0
  refine w_rdF hO.1.V (w_nzI (by decide) ?_)
  rw [ed]
  refine outer (V + A.length) 0 z (by omega) fr_rf ⟨S, adS_eq adS_rf (fun A' sg' => ⟨fun h9 => h9.elim, ?_⟩), h⟩
  rintro ⟨g1, k1, -, h2, -⟩
  omega
/-! two come -/
theorem t3_ok {g h k : Nat} (hok : okF A.flatten c) (hg : isG A g) (hh : isG A h) (hk : k < 8) : okF (t3A A c g h k).flatten (c + 2) := by
  have p := bld_perm (h := h) (P0 := t3P c k) (P1 := t3Q c k) hg
  rw [if_pos (gps_mem.mpr hh)] at p
  exact okF_pm p (okB_F hok (two_ok (a := k % 2) (b := k / 2 % 2) (u := k / 4) (by omega) (by omega) (by omega)))
theorem t3_len {g h k : Nat} : (t3A A c g h k).length = A.length := by
  unfold t3A bldA
  rw [List.length_map, List.length_range]
theorem xr_twoAt {g h k : Nat} (hΦ : snkF Φ) (hn : mw_net n) (hn3 : n ≠ 3000) (hok : okF A.flatten c) (hV : A.flatten.length ≤ 20) (hL : L < 2700) (hg : isG A g) (hh : isG A h) (ht : k < 8) (hO : oNet z n A sg) (hP : Φ z S L) : Te (fun K => qe_X13_twoAt K n (nI g) (nI h) (nI k) z) (fun z1 => (∃ S', adS S S' (fun A' sg' => A' = t3A A c g h k ∧ sg' = t3S sg c ∧ plnA A' sg') ∧ Φ z1 S' (L + 1)) ∧ fr frC z z1) := by
  have hmn := net_mod hn
  have hC := hO.2.2.2
  have hVc := okF_len hok
  have hgb := isG_lt hg
  have hhb := isG_lt hh
  have ok3 := t3_ok (k := k) hok hg hh ht
  have hl3 := okF_len ok3
  have hle3 := t3_len (A := A) (c := c) (g := g) (h := h) (k := k)
  let Q : ow_MS → Prop := fun z1 => (∃ S', adS S S' (fun A' sg' => A' = t3A A c g h k ∧ sg' = t3S sg c ∧ plnA A' sg') ∧ Φ z1 S' (L + 1)) ∧ fr frC z z1
  obtain ⟨u, hu⟩ : ∃ u, u = k / 4 := ⟨_, rfl⟩
  have hu2 : u < 2 := by omega
  obtain ⟨q0, hq0⟩ : ∃ q, q = (if u = 0 then c + k % 2 else c + k / 2 % 2) := ⟨_, rfl⟩
  obtain ⟨q1, hq1⟩ : ∃ q, q = (if u = 0 then 2 * c + 1 - (c + k % 2) else 2 * c + 1 - (c + k / 2 % 2)) := ⟨_, rfl⟩
  obtain ⟨q2, hq2⟩ : ∃ q, q = (if u = 0 then c + k / 2 % 2 else c + k % 2) := ⟨_, rfl⟩
  obtain ⟨q3, hq3⟩ : ∃ q, q = (if u = 0 then 2 * c + 1 - (c + k / 2 % 2) else 2 * c + 1 - (c + k % 2)) := ⟨_, rfl⟩
  have eP : t3P c k = [(q0, u), (q1, u)] := by rw [hq0, hq1, hu]; rfl
  have eQ : t3Q c k = [(q2, 1 - u), (q3, 1 - u)] := by rw [hq2, hq3, hu]; rfl
  have c4 : ∀ (y : ow_MS) (x6 x7 x8 x9 t0 : Int32), fr (fun g => g = 31 ∨ g = 32) z y → y.2.1 31 0 = nI q0 → y.2.1 32 0 = nI u → y.2.1 31 1 = nI q1 → y.2.1 32 1 = nI u → y.2.1 31 2 = nI q2 → y.2.1 32 2 = nI (1 - u) → t0 = nI q3 → Tt (fun K i => q_X13_twoAt K i 4 (nI g) (nI h) (nI k) (nI c) x6 x7 x8 x9 (nI u) n t0 3 y) Q := by
    intro y x6 x7 x8 x9 t0 hf p0 r0 p1 r1 p2 r2 ht0
    refine u_X13_twoAt_4 ?_; unfold qm_X13_twoAt_4
    rw [show (1 : Int32) - nI u = nI (1 - u) from pk_sub (a := 1) (by omega), nI_1]
    refine w_cs0 (tp_put (i := 3) (by omega)) (fun y2 e2 => ?_)
    subst e2
    have f31 : fr (fun g => g = 31 ∨ g = 32) z (usI (usI y 31 3 t0) 32 3 (nI (1 - u))) := fr_I2 (fr_I2 hf (Or.inl rfl)) (Or.inr rfl)
    have o3 := oNet_fr f31 (fun g hg => by omega) hO
    refine w_cs0 (xr_build (g := g) (h := h) (p0 := (q0, u)) (p1 := (q1, u)) (p2 := (q2, 1 - u)) (p3 := (q3, 1 - u)) hn hn3 o3 (by omega) (Or.inl (by omega)) (fun k hk => nI_eq (by omega) (by omega)) ⟨rd_ot (by decide) (rd_ne (by decide) p0), rd_ne (by decide) (rd_ot (by decide) r0), rd_ot (by decide) (rd_ne (by decide) p1), rd_ne (by decide) (rd_ot (by decide) r1)⟩ (fun _ => ⟨rd_ot (by decide) (rd_ne (by decide) p2), rd_ne (by decide) (rd_ot (by decide) r2), rd_ot (by decide) (po_usI_at.trans ht0), po_usI_at⟩)) (fun y3 ⟨b3, f3, s3⟩ => ?_)
    rw [← eP, ← eQ] at b3
    have b3 : rn_At y3 3000 (t3A A c g h k) [] := b3
    refine w_wrI (pl6 pn3) rfl (by omega) (w_wrI (pl6 pn3) rfl (by omega) ?_)
    obtain ⟨y4, hy4⟩ : ∃ y4, y4 = usI (usI y3 3006 c 1) 3006 (c + 1) (-1) := ⟨_, rfl⟩
    have f4 : fr (fun g => g = 3006) y3 y4 := by rw [hy4]; exact fr_I2 (fr_I rfl) rfl
    have b4 : rn_At y4 3000 (t3A A c g h k) [] := fr_At f4 (fun g hg => by omega) b3
    have sg4 : rn_sg y4 3000 (t3A A c g h k).flatten (t3S sg c) := fun p hp => by
      have hp1 := ((ok3.2 p).mp hp).1
      show y4.2.1 3006 p.1 = if t3S sg c p.1 = true then -1 else 1
      unfold t3S
      rw [hy4]
      by_cases ep : p.1 = c
      · rw [ep, if_pos rfl]
        exact rd_ne (by omega) po_usI_at
      · rw [if_neg ep]
        by_cases ep2 : p.1 = c + 1
        · rw [ep2, if_pos rfl]
          exact po_usI_at
        · rw [if_neg ep2]
          refine rd_ne ep2 (rd_ne ep ?_)
          rw [s3 p.1 (by omega)]
          exact o3.2.1 (p.1, 0) ((hok.2 _).mpr ⟨by show p.1 < c; omega, by show 0 < 2; omega⟩)
    have hwk : wkF (t3A A c g h k).flatten := okF_wk (by omega) ok3
    have F4 : fr (fun g => 31 ≤ g ∧ g ≤ 34 ∨ 1000 ≤ g) z y4 := fr_tr (fr_mono (fun g hg => by omega) f31) (fr_tr (fr_mono (fun g hg => by omega) f3) (fr_mono (fun g hg => by omega) f4))
    have C4 : fr frC z y4 := fr_tr (fr_mono (fun g hg => by unfold frC; omega) f31) (fr_tr (fr_mono (fun g hg => by unfold frC; omega) f3) (fr_mono (fun g hg => by unfold frC; omega) f4))
    obtain ⟨n1, n2, n3⟩ := netO_ok (sg := t3S sg c) ok3 (show c + 2 ≤ 12 by omega)
    rw [← hy4]
    refine w_cs0 (tn_link pn3 (by omega) (by omega) (wkF_ok hwk).1 b4) (fun y5 ⟨g1, g2, g3⟩ => ?_)
    have sg5 : rn_sg y5 3000 (t3A A c g h k).flatten (t3S sg c) := fun p hp => by
      rw [(g1 3006 (fun h8 => by have := h8.1; omega)).2.1]
      exact sg4 p hp
    refine w_cs1 (xr_plane pn3 (by omega) n1 n2 n3 ⟨g2, g3⟩ sg5) (fun v y6 ⟨k1, k2, k3⟩ => ?_)
    have k1 : v = if nt_plane (netO (t3A A c g h k) (t3S sg c) (c + 2)) = true then 1 else 0 := k1
    have k2 : fr (fun g => 3000 + 12 ≤ g ∧ g ≤ 3000 + 16) y5 y6 := k2
    have k3 : rn_lk y6 3000 (t3A A c g h k) := k3
    have F6 : fr (fun g => 31 ≤ g ∧ g ≤ 34 ∨ 1000 ≤ g) z y6 := fr_tr F4 (fr_tr (fr_mono (fun g hg => by have := hg.1; omega) g1) (fr_mono (fun g hg => by omega) k2))
    have C6 : fr frC z y6 := fr_tr C4 (fr_tr (fr_mono (fun g hg => by have := hg.1; have := hg.2; unfold frC; omega) g1) (fr_mono (fun g hg => by unfold frC; omega) k2))
    have pl := pln_net (sg := t3S sg c) ok3 (show c + 2 ≤ 12 by omega)
    have P6 := hΦ.1 _ _ _ _ _ F6 (fun g hg => hg) hP
    cases hpl : nt_plane (netO (t3A A c g h k) (t3S sg c) (c + 2)) with
    | false =>
      rw [hpl] at k1 pl
      have k1 : v = 0 := k1
      refine w_ifT k1 (w_some ⟨⟨S, adS_eq adS_rf (fun A' sg' => ⟨fun h9 => h9.elim, ?_⟩), hΦ.2.2 _ _ _ _ (by omega) P6⟩, C6⟩)
      rintro ⟨e1, e2, e3⟩
      rw [e1, e2] at e3
      have := pl.mp e3
      cases this
    | true =>
      rw [hpl] at k1 pl
      have k1 : v = 1 := k1
      refine w_ifF (by rw [k1]; decide) (w_cs0 (hΦ.2.1 y6 S L _ (t3S sg c) hL P6 k3.1 (fun p hp => ?_) hwk (by omega) (by omega)) (fun y7 ⟨⟨S2, m0, m1⟩, m2⟩ => w_some ⟨⟨S2, adS_eq m0 (fun A' sg' => ⟨fun ⟨e1, e2⟩ => ⟨e1, e2, ?_⟩, fun ⟨e1, e2, _⟩ => ⟨e1, e2⟩⟩), m1⟩, fr_tr C6 (fr_mono (fun g hg => by unfold frO at hg; unfold frC; omega) m2)⟩))
      · rw [(k2 3006 (by omega)).2.1]
        exact sg5 p hp
      · rw [e1, e2]
        exact pl.mpr rfl
  have c3 : ∀ (y : ow_MS) (x6 x7 x8 x9 t0 : Int32), (if u = 0 then x9 = nI q3 else x7 = nI q3) → fr (fun g => g = 31 ∨ g = 32) z y → y.2.1 31 0 = nI q0 → y.2.1 32 0 = nI u → y.2.1 31 1 = nI q1 → y.2.1 32 1 = nI u → t0 = nI q2 → Tt (fun K i => q_X13_twoAt K i 3 (nI g) (nI h) (nI k) (nI c) x6 x7 x8 x9 (nI u) n t0 2 y) Q := by
    intro y x6 x7 x8 x9 t0 hx hf p0 r0 p1 r1 ht0
    refine u_X13_twoAt_3 ?_; unfold qm_X13_twoAt_3
    rw [show (1 : Int32) - nI u = nI (1 - u) from pk_sub (a := 1) (by omega)]
    refine w_cs0 (tp_put (i := 2) (by omega)) (fun y2 e2 => ?_)
    subst e2
    have f31 : fr (fun g => g = 31 ∨ g = 32) z (usI (usI y 31 2 t0) 32 2 (nI (1 - u))) := fr_I2 (fr_I2 hf (Or.inl rfl)) (Or.inr rfl)
    refine w_eqN (b := 0) (by omega) (by omega) (fun h9 => ?_) (fun h9 => ?_)
    · rw [if_pos h9] at hx
      exact c4 _ _ _ _ _ _ f31 (rd_ot (by decide) (rd_ne (by decide) p0)) (rd_ne (by decide) (rd_ot (by decide) r0)) (rd_ot (by decide) (rd_ne (by decide) p1)) (rd_ne (by decide) (rd_ot (by decide) r1)) (rd_ot (by decide) (po_usI_at.trans ht0)) po_usI_at hx
    · rw [if_neg h9] at hx
      exact c4 _ _ _ _ _ _ f31 (rd_ot (by decide) (rd_ne (by decide) p0)) (rd_ne (by decide) (rd_ot (by decide) r0)) (rd_ot (by decide) (rd_ne (by decide) p1)) (rd_ne (by decide) (rd_ot (by decide) r1)) (rd_ot (by decide) (po_usI_at.trans ht0)) po_usI_at hx
  have c2 : ∀ (y : ow_MS) (x6 x7 x8 x9 t0 : Int32), (if u = 0 then x9 = nI q3 else x7 = nI q3) → (if u = 0 then x8 = nI q2 else x6 = nI q2) → fr (fun g => g = 31 ∨ g = 32) z y → y.2.1 31 0 = nI q0 → y.2.1 32 0 = nI u → t0 = nI q1 → Tt (fun K i => q_X13_twoAt K i 2 (nI g) (nI h) (nI k) (nI c) x6 x7 x8 x9 (nI u) n t0 1 y) Q := by
    intro y x6 x7 x8 x9 t0 hx hx2 hf p0 r0 ht0
    refine u_X13_twoAt_2 ?_; unfold qm_X13_twoAt_2
    refine w_cs0 (tp_put (i := 1) (by omega)) (fun y2 e2 => ?_)
    subst e2
    have f31 : fr (fun g => g = 31 ∨ g = 32) z (usI (usI y 31 1 t0) 32 1 (nI u)) := fr_I2 (fr_I2 hf (Or.inl rfl)) (Or.inr rfl)
    refine w_eqN (b := 0) (by omega) (by omega) (fun h9 => ?_) (fun h9 => ?_)
    · rw [if_pos h9] at hx2
      exact c3 _ _ _ _ _ _ hx f31 (rd_ot (by decide) (rd_ne (by decide) p0)) (rd_ne (by decide) (rd_ot (by decide) r0)) (rd_ot (by decide) (po_usI_at.trans ht0)) po_usI_at hx2
    · rw [if_neg h9] at hx2
      exact c3 _ _ _ _ _ _ hx f31 (rd_ot (by decide) (rd_ne (by decide) p0)) (rd_ne (by decide) (rd_ot (by decide) r0)) (rd_ot (by decide) (po_usI_at.trans ht0)) po_usI_at hx2
  have c1 : ∀ (x6 x7 x8 x9 t0 : Int32), (if u = 0 then x9 = nI q3 else x7 = nI q3) → (if u = 0 then x8 = nI q2 else x6 = nI q2) → (if u = 0 then x7 = nI q1 else x9 = nI q1) → t0 = nI q0 → Tt (fun K i => q_X13_twoAt K i 1 (nI g) (nI h) (nI k) (nI c) x6 x7 x8 x9 (nI u) n t0 0 z) Q := by
    intro x6 x7 x8 x9 t0 hx hx2 hx3 ht0
    refine u_X13_twoAt_1 ?_; unfold qm_X13_twoAt_1
    refine w_cs0 (tp_put (i := 0) (by omega)) (fun y2 e2 => ?_)
    subst e2
    have f31 : fr (fun g => g = 31 ∨ g = 32) z (usI (usI z 31 0 t0) 32 0 (nI u)) := fr_I2 (fr_I (Or.inl rfl)) (Or.inr rfl)
    refine w_eqN (b := 0) (by omega) (by omega) (fun h9 => ?_) (fun h9 => ?_)
    · rw [if_pos h9] at hx3
      exact c2 _ _ _ _ _ _ hx hx2 f31 (rd_ot (by decide) (po_usI_at.trans ht0)) po_usI_at hx3
    · rw [if_neg h9] at hx3
      exact c2 _ _ _ _ _ _ hx hx2 f31 (rd_ot (by decide) (po_usI_at.trans ht0)) po_usI_at hx3
  have ed : nI A.flatten.length / 2 = nI c := by
    rw [show nI A.flatten.length / 2 = nI (A.flatten.length / 2) from pk_div (d := 2) (by omega) (by omega) (by omega)]
    congr 1
    omega
  have e1 : nI k &&& 1 = nI (k % 2) := rn_and1 (by omega)
  have e2 : nI k >>> ((1 : Int32) &&& 31) = nI (k / 2) := rn_shr1 (by omega)
  have e3 : nI k >>> ((2 : Int32) &&& 31) = nI u := by rw [hu]; exact pk_shrN (n := k) (by omega) ((2 : Int32) &&& 31) 2 (by decide)
  have e4 : nI (k / 2) &&& 1 = nI (k / 2 % 2) := rn_and1 (by omega)
  refine e_X13_twoAt ?_
  refine u_X13_twoAt_0 ?_; unfold qm_X13_twoAt_0
  refine w_rdF hO.1.V (w_nzI (by decide) ?_)
  rw [ed, e1, e2, e3, e4, nI_add, nI_add, rn_mul2, nI_1, pk_sub (show c + k % 2 ≤ 2 * c + 1 by omega), pk_sub (show c + k / 2 % 2 ≤ 2 * c + 1 by omega)]
  refine w_eqN (b := 0) (by omega) (by omega) (fun h9 => ?_) (fun h9 => ?_)
  · rw [if_pos h9] at hq0 hq1 hq2 hq3
    refine c1 _ _ _ _ _ ?_ ?_ ?_ ?_
    · rw [if_pos h9, hq3]
    · rw [if_pos h9, hq2]
    · rw [if_pos h9, hq1]
    · rw [hq0]
  · rw [if_neg h9] at hq0 hq1 hq2 hq3
    refine c1 _ _ _ _ _ ?_ ?_ ?_ ?_
    · rw [if_neg h9, hq3]
    · rw [if_neg h9, hq2]
    · rw [if_neg h9, hq1]
    · rw [hq0]
end XK1
