/-! maps: the reference counts all that goes on from what is given -/
section XM7
theorem exT_eq {y y1 : ow_MS} {m : Nat} {T L : List Nat} (h : ∀ b, b ∈ T → y1.2.1 77 b = y.2.1 77 b) (hx : exT y m T L) : exT y1 m T L := fun b q hb hq e => hx b q hb hq (by rw [← h b hb]; exact e)
theorem exT_sub {y : ow_MS} {m : Nat} {T E L : List Nat} (hx : exT y m (T ++ E) L) : exT y m T L := fun b q hb hq e => hx b q (List.mem_append_left _ hb) hq e
theorem xp_mapsOf {n m c a : Nat} {A : rn_L} {sg : Nat → Bool} {ov iv fv : Nat → Nat} {pt : Nat → Bool} (hn : mw_net n) (hm1 : 1 ≤ m) (hm4 : m ≤ 4) (hV : A.flatten.length = 2 * c) (hc : c ≤ 12) (ha : a ≤ 18) : ∀ (k dd : Nat) (T : List Nat) (z : ow_MS), a - T.length ≤ k → k < dd → mgI z a m T → mcX z n m A sg c a ov iv fv pt → z.2.1 73 m = nI (thM m) → (∀ b, b ∈ T → usP c ov iv fv pt b) → Te (fun K => qd_X13_mapsOf K dd n (nI m) z) (fun r => (mgI r.2 a m T ∧ fr gvH z r.2) ∧ (∀ b, b ∈ T → r.2.2.1 77 b = z.2.1 77 b) ∧ ∃ N, r.1 = nI N ∧ cnt9 (fun L => slM m c a sg ov iv fv pt L ∧ exT z m T L) N) := by
  intro k
  induction k using Nat.strongRecOn with
  | ind k ih =>
  intro dd T z hk hdd hI hM h73 hTu
  obtain ⟨dd, rfl⟩ : ∃ d', dd = d' + 1 := ⟨dd - 1, by omega⟩
  have hth := thM_le m
  have hT := mgI_len hI
  let Q : Int32 × ow_MS → Prop := fun r => (mgI r.2 a m T ∧ fr gvH z r.2) ∧ (∀ b, b ∈ T → r.2.2.1 77 b = z.2.1 77 b) ∧ ∃ N, r.1 = nI N ∧ cnt9 (fun L => slM m c a sg ov iv fv pt L ∧ exT z m T L) N
  have mF : ∀ {y : ow_MS}, fr gvH z y → mcX y n m A sg c a ov iv fv pt := fun hf => mcX_fr hn hf hM
  have f73 : ∀ {y : ow_MS}, fr gvH z y → y.2.1 73 m = nI (thM m) := fun hf => by
    rw [(hf 73 (by unfold gvH; omega)).2.1]
    exact h73
  have c6 : ∀ (x4 : Int32) (N : Nat) (E : List Nat) (y : ow_MS), x4 = nI N → cnt9 (fun L => slM m c a sg ov iv fv pt L ∧ exT z m T L) N → mgI y a m (T ++ E) → fr gvH z y → (∀ b, b ∈ T → y.2.1 77 b = z.2.1 77 b) → Tt (fun K i => q_X13_mapsOf K (qd_X13_mapsOf K dd) i 6 (nI m) (nI T.length) x4 0 0 0 n 0 y) Q := by
    intro x4 N E y e4 hN hI hf hu
    refine u_X13_mapsOf_6 ?_; unfold qm_X13_mapsOf_6
    exact w_cs0 (xp_takeBack ha hI rfl) (fun y1 ⟨⟨I1, f1⟩, u1⟩ => w_some ⟨⟨I1, fr_tr hf f1⟩, fun b hb => (u1 b hb).trans (hu b hb), N, e4, hN⟩)
  refine w_qdM ?_
  refine u_X13_mapsOf_0 ?_; unfold qm_X13_mapsOf_0
  refine w_rdF hI.1 (w_cs1 (xp_follows hn hm1 hm4 hV hc ha hI hM) (fun v y h9 => ?_))
  obtain ⟨E, IE, fE, uE, eE, hv⟩ := h9
  have IE : mgI y a m (T ++ E) := IE
  have fE : fr gvH z y := fE
  have uE : ∀ b, b ∈ T → y.2.1 77 b = z.2.1 77 b := uE
  rcases hv with ⟨v0, v1⟩ | ⟨v0, v1, v2⟩
  · have v0 : v = 0 := v0
    rw [v0]
    exact w_ifT rfl (c6 0 0 E y rfl (cnt_0 (fun L hL => v1 L hL.1 hL.2)) IE fE uE)
  have v0 : v = 1 := v0
  rw [v0]
  refine w_ifF (by decide) ?_
  have hMy := mF fE
  have hU : ∀ b, b ∈ T ++ E → usP c ov iv fv pt b := fun b hb => (List.mem_append.mp hb).elim (hTu b) (eE b)
  have sq : ∀ L, slM m c a sg ov iv fv pt L → (exT z m T L ↔ exT y m (T ++ E) L) := fun L hL => ⟨v1 L hL, fun hx => exT_eq (fun b hb => (uE b hb).symm) (exT_sub hx)⟩
  have st := IE.2.2.2.2
  have c4 : ∀ (x6 : Int32) (x5 : Int32), (x5 = -1 ∧ (∀ b, usP c ov iv fv pt b → b ∈ T ++ E) ∨ ∃ b, x5 = nI b ∧ b < a ∧ b ∉ T ++ E ∧ usP c ov iv fv pt b) → Tt (fun K i => q_X13_mapsOf K (qd_X13_mapsOf K dd) i 4 (nI m) (nI T.length) 0 x5 x6 0 n 0 y) Q := by
    intro x6 x5 h5
    refine u_X13_mapsOf_4 ?_; unfold qm_X13_mapsOf_4
    rcases h5 with ⟨rfl, hall⟩ | ⟨b, rfl, hb, hbT, hbu⟩
    · refine w_ifT rfl (c6 1 1 E y rfl ?_ IE fE uE)
      obtain ⟨w, hw⟩ : ∃ w : Nat → Nat, ∀ b, b < 40 → (b ∈ T ++ E → w b < thM m ∧ y.2.1 77 b = nI (w b)) ∧ (b ∉ T ++ E → w b = 0) := by
        refine Classical.axiomOfChoice (r := fun b q => b < 40 → (b ∈ T ++ E → q < thM m ∧ y.2.1 77 b = nI q) ∧ (b ∉ T ++ E → q = 0)) (fun b => ?_)
        by_cases hb : b < 40
        · rcases st b hb with ⟨k1, -⟩ | ⟨k1, q, k3, k4⟩
          · exact ⟨0, fun _ => ⟨fun h9 => absurd h9 k1, fun _ => rfl⟩⟩
          · exact ⟨q, fun _ => ⟨fun _ => ⟨k3, k4⟩, fun h9 => absurd k1 h9⟩⟩
        · exact ⟨0, fun h9 => absurd h9 hb⟩
      have g0 : ∀ b q, ((List.range a).map w)[b]? = some q → b < a ∧ q = w b := fun b q e => by
        have l := (List.getElem?_eq_some_iff.mp e).1
        rw [List.length_map, List.length_range] at l
        rw [List.getElem?_map, List.getElem?_range l] at e
        exact ⟨l, (Option.some.inj e).symm⟩
      have g1 : ∀ b, b < a → ((List.range a).map w)[b]? = some (w b) := fun b hb => by
        rw [List.getElem?_map, List.getElem?_range hb]
        rfl
      refine cnt_1 (L0 := (List.range a).map w) (fun L => ⟨fun ⟨hL, hx⟩ => ?_, fun e => ?_⟩)
      · have hxy := (sq L hL).mp hx
        refine List.ext_getElem? (fun b => ?_)
        by_cases hb : b < a
        · rw [g1 b hb]
          by_cases hbU : b ∈ T ++ E
          · obtain ⟨w1, w2⟩ := (hw b (by omega)).1 hbU
            exact hxy b (w b) hbU w1 w2
          · have e1 : L[b]? = some (L[b]'(by rw [hL.1]; exact hb)) := List.getElem?_eq_getElem (by rw [hL.1]; exact hb)
            rw [e1, (hw b (by omega)).2 hbU, (hL.2.1 b _ e1).2 (fun h9 => hbU (hall b h9))]
        · rw [List.getElem?_eq_none (by rw [hL.1]; omega), List.getElem?_eq_none (by rw [List.length_map, List.length_range]; omega)]
      · rw [e]
        have hL : slM m c a sg ov iv fv pt ((List.range a).map w) := by
          refine ⟨by rw [List.length_map, List.length_range], fun b q e1 => ?_, fun x hx hp o i j e1 e2 e3 => ?_⟩
          · obtain ⟨l, rfl⟩ := g0 b q e1
            refine ⟨?_, fun h9 => (hw b (by omega)).2 (fun h8 => h9 (hU b h8))⟩
            by_cases hbU : b ∈ T ++ E
            · exact ((hw b (by omega)).1 hbU).1
            · rw [(hw b (by omega)).2 hbU]
              omega
          · obtain ⟨l1, rfl⟩ := g0 _ _ e1
            obtain ⟨l2, rfl⟩ := g0 _ _ e2
            obtain ⟨l3, rfl⟩ := g0 _ _ e3
            have u1 := hall _ ⟨x, hx, hp, Or.inl rfl⟩
            have u2 := hall _ ⟨x, hx, hp, Or.inr (Or.inl rfl)⟩
            have u3 := hall _ ⟨x, hx, hp, Or.inr (Or.inr rfl)⟩
            obtain ⟨p1, p2⟩ := (hw _ (show ov x < 40 by omega)).1 u1
            obtain ⟨p3, p4⟩ := (hw _ (show iv x < 40 by omega)).1 u2
            obtain ⟨p5, p6⟩ := (hw _ (show fv x < 40 by omega)).1 u3
            exact (v2 x hx hp u1).2 _ _ _ p1 p3 p5 u2 p2 p4 p6
        refine ⟨hL, (sq _ hL).mpr (fun b q hb hq e1 => ?_)⟩
        have lb := IE.2.2.1 b hb
        obtain ⟨p1, p2⟩ := (hw b (by omega)).1 hb
        rw [p2] at e1
        rw [g1 b lb, nI_inj9 (by omega) (by omega) e1]
    · refine w_ifF (rn_neg1 (by omega)) ?_
      have hroom := mgI_room IE hb hbT
      have c5 : ∀ (d p N : Nat) (y' : ow_MS), p + d = thM m → mgI y' a m (T ++ E) → fr gvH z y' → (∀ b', b' ∈ T ++ E → y'.2.1 77 b' = y.2.1 77 b') → cnt9 (fun L => ∃ p', p' < p ∧ (slM m c a sg ov iv fv pt L ∧ exT z m T L) ∧ L[b]? = some p') N → Tt (fun K i => q_X13_mapsOf K (qd_X13_mapsOf K dd) i 5 (nI m) (nI T.length) (nI N) (nI b) (nI (T ++ E).length) (nI p) n 0 y') Q := by
        intro d
        induction d with
        | zero =>
          intro p N y' hp I1 f1 u1 hN
          have ep : p = thM m := by omega
          refine u_X13_mapsOf_5 ?_; unfold qm_X13_mapsOf_5
          refine w_rdI ml73 rfl (by omega) (f73 f1) (w_leT (by omega) (by omega) (c6 _ N E y' rfl (cnt_cg (fun L => ⟨fun ⟨p', _, q2, _⟩ => q2, fun q2 => ?_⟩) hN) I1 f1 (fun b' hb' => (u1 b' (List.mem_append_left _ hb')).trans (uE b' hb'))))
          have e1 : L[b]? = some (L[b]'(by rw [q2.1.1]; exact hb)) := List.getElem?_eq_getElem (by rw [q2.1.1]; exact hb)
          exact ⟨_, by rw [ep]; exact (q2.1.2.1 b _ e1).1, q2, e1⟩
        | succ d ih5 =>
          intro p N y' hp I1 f1 u1 hN
          have hpT : p < thM m := by omega
          refine u_X13_mapsOf_5 ?_; unfold qm_X13_mapsOf_5
          rw [nI_1]
          refine w_rdI ml73 rfl (by omega) (f73 f1) (w_leF (by omega) (by omega) (w_cs0 (te_and (tp_give ha I1 hb hbT hpT) (xp_give (q := p) ha I1 hb hbT)) (fun y2 ⟨⟨I2, f2⟩, g1, g2⟩ => w_cs1 (ih (a - ((T ++ E) ++ [b]).length) ?_ dd _ y2 (Nat.le_refl _) ?_ I2 (mF (fr_tr f1 f2)) (f73 (fr_tr f1 f2)) (fun b' hb' => ?_)) (fun v y3 h9 => ?_))))
          · rw [List.length_append]
            show a - ((T ++ E).length + 1) < k
            rw [List.length_append] at hroom ⊢
            omega
          · rw [List.length_append]
            show a - ((T ++ E).length + 1) < dd
            rw [List.length_append] at hroom ⊢
            omega
          · rcases List.mem_append.mp hb' with h8 | h8
            · exact hU b' h8
            · rw [List.mem_singleton.mp h8]
              exact hbu
          obtain ⟨⟨I3, f3⟩, u3, N1, e1, hN1⟩ := h9
          have e1 : v = nI N1 := e1
          rw [e1]
          refine w_cs0 (xp_takeBack ha I3 rfl) (fun y4 ⟨⟨I4, f4⟩, u4⟩ => ?_)
          rw [nI_add]
          refine ih5 (p + 1) (N + N1) y4 (by omega) I4 (fr_tr f1 (fr_tr f2 (fr_tr f3 f4))) (fun b' hb' => ?_) ?_
          · have ne : b' ≠ b := fun e => hbT (e ▸ hb')
            rw [u4 b' hb']
            exact (u3 b' (List.mem_append_left _ hb')).trans ((g2 b' ne).trans (u1 b' hb'))
          · have eqv : ∀ L, (slM m c a sg ov iv fv pt L ∧ exT y2 m ((T ++ E) ++ [b]) L) ↔ ((slM m c a sg ov iv fv pt L ∧ exT z m T L) ∧ L[b]? = some p) := fun L => by
              constructor
              · rintro ⟨q1, q2⟩
                refine ⟨⟨q1, (sq L q1).mpr (exT_eq (fun b' hb' => ?_) (exT_sub q2))⟩, q2 b p (List.mem_append_right _ (List.mem_singleton.mpr rfl)) hpT g1⟩
                have ne : b' ≠ b := fun e => hbT (e ▸ hb')
                exact (u1 b' hb').symm.trans (g2 b' ne).symm
              · rintro ⟨⟨q1, q2⟩, q3⟩
                exact ⟨q1, exT_g hpT g1 g2 q3 (exT_eq u1 ((sq L q1).mp q2))⟩
            refine cnt_cg (fun L => ?_) (cnt_or (fun L ⟨p', q1, _, q3⟩ q4 => ?_) hN (cnt_cg eqv hN1))
            · constructor
              · rintro (⟨p', q1, q2⟩ | q2)
                · exact ⟨p', by omega, q2⟩
                · exact ⟨p, by omega, q2⟩
              · rintro ⟨p', q1, q2⟩
                by_cases e : p' = p
                · rw [e] at q2
                  exact Or.inr q2
                · exact Or.inl ⟨p', by omega, q2⟩
            · rw [q3] at q4
              have := Option.some.inj q4.2
              omega
      exact w_rdF IE.1 (c5 (thM m) 0 0 y (by omega) IE fE (fun _ _ => rfl) (cnt_0 (fun L ⟨p', q1, _⟩ => absurd q1 (Nat.not_lt_zero _))))
  have c1 : ∀ (d x : Nat) (x5 : Int32), x + d = c → (x5 = -1 ∧ (∀ x', x' < x → pt x' = true → ov x' ∈ T ++ E ∧ iv x' ∈ T ++ E ∧ fv x' ∈ T ++ E) ∨ ∃ b, x5 = nI b ∧ b < a ∧ b ∉ T ++ E ∧ usP c ov iv fv pt b) → Tt (fun K i => q_X13_mapsOf K (qd_X13_mapsOf K dd) i 1 (nI m) (nI T.length) 0 x5 (nI x) 0 n 0 y) Q := by
    intro d
    induction d with
    | zero =>
      intro x x5 hx h5
      refine u_X13_mapsOf_1 ?_; unfold qm_X13_mapsOf_1
      refine w_rdF hMy.1.1.V (w_nzI (by decide) ?_)
      rw [hV, half_V (by omega)]
      refine w_leT (by omega) (by omega) (c4 _ _ (h5.imp (fun ⟨p1, p2⟩ => ⟨p1, fun b ⟨x', q1, q2, q3⟩ => ?_⟩) id))
      obtain ⟨r1, r2, r3⟩ := p2 x' (by omega) q2
      rcases q3 with rfl | rfl | rfl
      · exact r1
      · exact r2
      · exact r3
    | succ d ih1 =>
      intro x x5 hx h5
      have hxc : x < c := by omega
      obtain ⟨⟨e61, lo⟩, ⟨e62, li⟩, e63, lf⟩ := hMy.2.1 x hxc
      have e80 := hMy.2.2.2 x hxc
      have c3 : ∀ (x5 : Int32), (x5 = -1 ∧ (∀ x', x' < x + 1 → pt x' = true → ov x' ∈ T ++ E ∧ iv x' ∈ T ++ E ∧ fv x' ∈ T ++ E) ∨ ∃ b, x5 = nI b ∧ b < a ∧ b ∉ T ++ E ∧ usP c ov iv fv pt b) → Tt (fun K i => q_X13_mapsOf K (qd_X13_mapsOf K dd) i 3 (nI m) (nI T.length) 0 x5 (nI x) 0 n 0 y) Q := by
        intro x5 h5
        refine u_X13_mapsOf_3 ?_; unfold qm_X13_mapsOf_3
        rw [nI_1]
        exact ih1 (x + 1) x5 (by omega) h5
      have c2 : ∀ (x5 t0 : Int32), (t0 = -1 ∧ (∀ x', x' < x + 1 → pt x' = true → ov x' ∈ T ++ E ∧ iv x' ∈ T ++ E ∧ fv x' ∈ T ++ E) ∨ ∃ b, t0 = nI b ∧ b < a ∧ b ∉ T ++ E ∧ usP c ov iv fv pt b) → Tt (fun K i => q_X13_mapsOf K (qd_X13_mapsOf K dd) i 2 (nI m) (nI T.length) 0 x5 (nI x) 0 n t0 y) Q := by
        intro x5 t0 h5
        refine u_X13_mapsOf_2 ?_; unfold qm_X13_mapsOf_2
        exact c3 t0 h5
      refine u_X13_mapsOf_1 ?_; unfold qm_X13_mapsOf_1
      refine w_rdF hMy.1.1.V (w_nzI (by decide) ?_)
      rw [hV, half_V (by omega)]
      refine w_leF (by omega) (by omega) ?_
      rcases h5 with ⟨rfl, hall⟩ | ⟨b, rfl, hb, hbT, hbu⟩
      · refine w_ifT rfl (w_rdI ml80 rfl (by omega) e80 (w_if (fun e0 => c3 _ (Or.inl ⟨rfl, fun x' hx' hp => ?_⟩)) (fun e1 => ?_)))
        · by_cases e : x' = x
          · rw [e, bI_0 e0] at hp
            cases hp
          · exact hall x' (by omega) hp
        have hpt := bI_1 e1
        rcases st (ov x) (by omega) with ⟨k1, k2⟩ | ⟨k1, g, hg, k2⟩
        · exact w_rdI ml61 rfl (by omega) e61 (w_rdI ml77 rfl (by omega) k2 (w_ifT rfl (w_rdI ml61 rfl (by omega) e61 (c2 _ _ (Or.inr ⟨_, rfl, lo, k1, x, hxc, hpt, Or.inl rfl⟩)))))
        refine w_rdI ml61 rfl (by omega) e61 (w_rdI ml77 rfl (by omega) k2 (w_ifF (rn_neg1 (by omega)) ?_))
        rcases st (iv x) (by omega) with ⟨i1, i2⟩ | ⟨i1, q8, h8, i2⟩
        · exact w_rdI ml62 rfl (by omega) e62 (w_rdI ml77 rfl (by omega) i2 (w_ifT rfl (w_rdI ml62 rfl (by omega) e62 (c2 _ _ (Or.inr ⟨_, rfl, li, i1, x, hxc, hpt, Or.inr (Or.inl rfl)⟩)))))
        refine w_rdI ml62 rfl (by omega) e62 (w_rdI ml77 rfl (by omega) i2 (w_ifF (rn_neg1 (by omega)) ?_))
        rcases st (fv x) (by omega) with ⟨f1, f2⟩ | ⟨f1, q10, h10, f2⟩
        · exact w_rdI ml63 rfl (by omega) e63 (w_rdI ml77 rfl (by omega) f2 (w_ifT rfl (w_rdI ml63 rfl (by omega) e63 (c2 _ _ (Or.inr ⟨_, rfl, lf, f1, x, hxc, hpt, Or.inr (Or.inr rfl)⟩)))))
        refine w_rdI ml63 rfl (by omega) e63 (w_rdI ml77 rfl (by omega) f2 (w_ifF (rn_neg1 (by omega)) (c2 _ _ (Or.inl ⟨rfl, fun x' hx' hp => ?_⟩))))
        by_cases e : x' = x
        · rw [e]
          exact ⟨k1, i1, f1⟩
        · exact hall x' (by omega) hp
      · exact w_ifF (rn_neg1 (by omega)) (c4 _ _ (Or.inr ⟨b, rfl, hb, hbT, hbu⟩))
  exact c1 c 0 (-1) (by omega) (Or.inl ⟨rfl, fun x' hx' => absurd hx' (Nat.not_lt_zero _)⟩)
end XM7
