/-! maps has an answer: the count itself -/
section MAPS2
variable {X : (Nat → Nat → Int32) → Prop} {z : ow_MS}
theorem w_qdM {dd r1 : Nat} {x2 : Int32} {z : ow_MS} {Q : Int32 × ow_MS → Prop} (H : Tt (fun K k => q_X13_mapsOf K (qd_X13_mapsOf K dd) k 0 x2 0 0 0 0 0 r1 0 z) Q) : Te (fun K => qd_X13_mapsOf K (dd + 1) r1 x2 z) Q := w_te H
theorem u_X13_mapsOf_6 {dd : Nat} {x2 : Int32} {x3 : Int32} {x4 : Int32} {x5 : Int32} {x6 : Int32} {x7 : Int32} {r1 : Nat} {t0 : Int32} {z : ow_MS} {Q : (Int32 × ow_MS) → Prop} (H : Tt (fun K k => qm_X13_mapsOf_6 K (qd_X13_mapsOf K dd) (q_X13_mapsOf K (qd_X13_mapsOf K dd) k) x2 x3 x4 x5 x6 x7 r1 t0 z) Q) : Tt (fun K k => q_X13_mapsOf K (qd_X13_mapsOf K dd) k 6 x2 x3 x4 x5 x6 x7 r1 t0 z) Q := w_un (fun _ _ => rfl) H
theorem u_X13_mapsOf_0 {dd : Nat} {x2 : Int32} {x3 : Int32} {x4 : Int32} {x5 : Int32} {x6 : Int32} {x7 : Int32} {r1 : Nat} {t0 : Int32} {z : ow_MS} {Q : (Int32 × ow_MS) → Prop} (H : Tt (fun K k => qm_X13_mapsOf_0 K (qd_X13_mapsOf K dd) (q_X13_mapsOf K (qd_X13_mapsOf K dd) k) x2 x3 x4 x5 x6 x7 r1 t0 z) Q) : Tt (fun K k => q_X13_mapsOf K (qd_X13_mapsOf K dd) k 0 x2 x3 x4 x5 x6 x7 r1 t0 z) Q := w_un (fun _ _ => rfl) H
theorem u_X13_mapsOf_4 {dd : Nat} {x2 : Int32} {x3 : Int32} {x4 : Int32} {x5 : Int32} {x6 : Int32} {x7 : Int32} {r1 : Nat} {t0 : Int32} {z : ow_MS} {Q : (Int32 × ow_MS) → Prop} (H : Tt (fun K k => qm_X13_mapsOf_4 K (qd_X13_mapsOf K dd) (q_X13_mapsOf K (qd_X13_mapsOf K dd) k) x2 x3 x4 x5 x6 x7 r1 t0 z) Q) : Tt (fun K k => q_X13_mapsOf K (qd_X13_mapsOf K dd) k 4 x2 x3 x4 x5 x6 x7 r1 t0 z) Q := w_un (fun _ _ => rfl) H
theorem u_X13_mapsOf_5 {dd : Nat} {x2 : Int32} {x3 : Int32} {x4 : Int32} {x5 : Int32} {x6 : Int32} {x7 : Int32} {r1 : Nat} {t0 : Int32} {z : ow_MS} {Q : (Int32 × ow_MS) → Prop} (H : Tt (fun K k => qm_X13_mapsOf_5 K (qd_X13_mapsOf K dd) (q_X13_mapsOf K (qd_X13_mapsOf K dd) k) x2 x3 x4 x5 x6 x7 r1 t0 z) Q) : Tt (fun K k => q_X13_mapsOf K (qd_X13_mapsOf K dd) k 5 x2 x3 x4 x5 x6 x7 r1 t0 z) Q := w_un (fun _ _ => rfl) H
theorem u_X13_mapsOf_1 {dd : Nat} {x2 : Int32} {x3 : Int32} {x4 : Int32} {x5 : Int32} {x6 : Int32} {x7 : Int32} {r1 : Nat} {t0 : Int32} {z : ow_MS} {Q : (Int32 × ow_MS) → Prop} (H : Tt (fun K k => qm_X13_mapsOf_1 K (qd_X13_mapsOf K dd) (q_X13_mapsOf K (qd_X13_mapsOf K dd) k) x2 x3 x4 x5 x6 x7 r1 t0 z) Q) : Tt (fun K k => q_X13_mapsOf K (qd_X13_mapsOf K dd) k 1 x2 x3 x4 x5 x6 x7 r1 t0 z) Q := w_un (fun _ _ => rfl) H
theorem u_X13_mapsOf_3 {dd : Nat} {x2 : Int32} {x3 : Int32} {x4 : Int32} {x5 : Int32} {x6 : Int32} {x7 : Int32} {r1 : Nat} {t0 : Int32} {z : ow_MS} {Q : (Int32 × ow_MS) → Prop} (H : Tt (fun K k => qm_X13_mapsOf_3 K (qd_X13_mapsOf K dd) (q_X13_mapsOf K (qd_X13_mapsOf K dd) k) x2 x3 x4 x5 x6 x7 r1 t0 z) Q) : Tt (fun K k => q_X13_mapsOf K (qd_X13_mapsOf K dd) k 3 x2 x3 x4 x5 x6 x7 r1 t0 z) Q := w_un (fun _ _ => rfl) H
theorem u_X13_mapsOf_2 {dd : Nat} {x2 : Int32} {x3 : Int32} {x4 : Int32} {x5 : Int32} {x6 : Int32} {x7 : Int32} {r1 : Nat} {t0 : Int32} {z : ow_MS} {Q : (Int32 × ow_MS) → Prop} (H : Tt (fun K k => qm_X13_mapsOf_2 K (qd_X13_mapsOf K dd) (q_X13_mapsOf K (qd_X13_mapsOf K dd) k) x2 x3 x4 x5 x6 x7 r1 t0 z) Q) : Tt (fun K k => q_X13_mapsOf K (qd_X13_mapsOf K dd) k 2 x2 x3 x4 x5 x6 x7 r1 t0 z) Q := w_un (fun _ _ => rfl) H
theorem tp_mapsOf {n m c a : Nat} {A : rn_L} {sg : Nat → Bool} (hn : mw_net n) (hm1 : 1 ≤ m) (hm4 : m ≤ 4) (hV : A.flatten.length = 2 * c) (hc : c ≤ 12) (ha : a ≤ 18) : ∀ (k dd : Nat) (T : List Nat) (z : ow_MS), a - T.length ≤ k → k < dd → mgI z a m T → mcI z n A sg c a → Te (fun K => qd_X13_mapsOf K dd n (nI m) z) (fun r => mgI r.2 a m T ∧ fr gvH z r.2) := by
  intro k
  induction k using Nat.strongRecOn with
  | ind k ih =>
  intro dd T z hk hdd hI hM
  obtain ⟨dd, rfl⟩ : ∃ d', dd = d' + 1 := ⟨dd - 1, by omega⟩
  have hth := thM_le m
  have hT := mgI_len hI
  let Q : Int32 × ow_MS → Prop := fun r => mgI r.2 a m T ∧ fr gvH z r.2
  have mF : ∀ {y : ow_MS}, fr gvH z y → mcI y n A sg c a := fun hf => mcI_fr hn hf (fun g hg => by unfold gvH at hg; omega) hM
  have c6 : ∀ (x4 : Int32) (E : List Nat) (y : ow_MS), mgI y a m (T ++ E) → fr gvH z y → Tt (fun K i => q_X13_mapsOf K (qd_X13_mapsOf K dd) i 6 (nI m) (nI T.length) x4 0 0 0 n 0 y) Q := by
    intro x4 E y hI hf
    refine u_X13_mapsOf_6 ?_; unfold qm_X13_mapsOf_6
    exact w_cs0 (tp_takeBack ha hI rfl) (fun y1 ⟨I1, f1⟩ => w_some ⟨I1, fr_tr hf f1⟩)
  refine w_qdM ?_
  refine u_X13_mapsOf_0 ?_; unfold qm_X13_mapsOf_0
  refine w_rdF hI.1 (w_cs1 (tp_follows hn hm1 hm4 hV hc ha hI hM) (fun v y ⟨⟨E, IE⟩, fE⟩ => w_if (fun _ => c6 _ E y IE fE) (fun _ => ?_)))
  have IE : mgI y a m (T ++ E) := IE
  have fE : fr gvH z y := fE
  have hMy := mF fE
  have c4 : ∀ (x6 : Int32) (x5 : Int32), (x5 = -1 ∨ ∃ b, x5 = nI b ∧ b < a ∧ b ∉ T ++ E) → Tt (fun K i => q_X13_mapsOf K (qd_X13_mapsOf K dd) i 4 (nI m) (nI T.length) 0 x5 x6 0 n 0 y) Q := by
    intro x6 x5 h5
    refine u_X13_mapsOf_4 ?_; unfold qm_X13_mapsOf_4
    refine w_if (fun _ => c6 _ E y IE fE) (fun n5 => ?_)
    rcases h5 with h5 | ⟨b, rfl, hb, hbT⟩
    · exact absurd h5 n5
    have hroom := mgI_room IE hb hbT
    have c5 : ∀ (d p : Nat) (x4 : Int32) (y : ow_MS), p + d = thM m → mgI y a m (T ++ E) → fr gvH z y → Tt (fun K i => q_X13_mapsOf K (qd_X13_mapsOf K dd) i 5 (nI m) (nI T.length) x4 (nI b) (nI (T ++ E).length) (nI p) n 0 y) Q := by
      intro d
      induction d with
      | zero =>
        intro p x4 y hp I1 f1
        refine u_X13_mapsOf_5 ?_; unfold qm_X13_mapsOf_5
        exact w_rdI ml73 rfl (by omega) (XMz_th (mF f1).2.2 hm4) (w_leT (by omega) (by omega) (c6 _ E y I1 f1))
      | succ d ih5 =>
        intro p x4 y hp I1 f1
        refine u_X13_mapsOf_5 ?_; unfold qm_X13_mapsOf_5
        rw [nI_1]
        refine w_rdI ml73 rfl (by omega) (XMz_th (mF f1).2.2 hm4) (w_leF (by omega) (by omega) (w_cs0 (tp_give ha I1 hb hbT (by omega)) (fun y2 ⟨I2, f2⟩ => w_cs1 (ih (a - ((T ++ E) ++ [b]).length) ?_ dd _ y2 (Nat.le_refl _) ?_ I2 (mF (fr_tr f1 f2))) (fun v y3 ⟨I3, f3⟩ => w_cs0 (tp_takeBack ha I3 rfl) (fun y4 ⟨I4, f4⟩ => ih5 (p + 1) _ y4 (by omega) I4 (fr_tr f1 (fr_tr f2 (fr_tr f3 f4))))))))
        · rw [List.length_append]
          show a - ((T ++ E).length + 1) < k
          rw [List.length_append] at hroom ⊢
          omega
        · rw [List.length_append]
          show a - ((T ++ E).length + 1) < dd
          rw [List.length_append] at hroom ⊢
          omega
    exact w_rdF IE.1 (c5 (thM m) 0 0 y (by omega) IE fE)
  have c1 : ∀ (d x : Nat) (x5 : Int32), x + d = c → (x5 = -1 ∨ ∃ b, x5 = nI b ∧ b < a ∧ b ∉ T ++ E) → Tt (fun K i => q_X13_mapsOf K (qd_X13_mapsOf K dd) i 1 (nI m) (nI T.length) 0 x5 (nI x) 0 n 0 y) Q := by
    intro d
    induction d with
    | zero =>
      intro x x5 hx h5
      refine u_X13_mapsOf_1 ?_; unfold qm_X13_mapsOf_1
      refine w_rdF hMy.1.1.V (w_nzI (by decide) ?_)
      rw [hV, half_V (by omega)]
      exact w_leT (by omega) (by omega) (c4 _ _ h5)
    | succ d ih1 =>
      intro x x5 hx h5
      obtain ⟨⟨o, ho, eo⟩, ⟨i, hi, ei⟩, ⟨j, hj, ej⟩⟩ := hMy.2.1.2 x (by omega)
      have c3 : ∀ (x5 : Int32), (x5 = -1 ∨ ∃ b, x5 = nI b ∧ b < a ∧ b ∉ T ++ E) → Tt (fun K i => q_X13_mapsOf K (qd_X13_mapsOf K dd) i 3 (nI m) (nI T.length) 0 x5 (nI x) 0 n 0 y) Q := by
        intro x5 h5
        refine u_X13_mapsOf_3 ?_; unfold qm_X13_mapsOf_3
        rw [nI_1]
        exact ih1 (x + 1) x5 (by omega) h5
      have c2 : ∀ (x5 t0 : Int32), (t0 = -1 ∨ ∃ b, t0 = nI b ∧ b < a ∧ b ∉ T ++ E) → Tt (fun K i => q_X13_mapsOf K (qd_X13_mapsOf K dd) i 2 (nI m) (nI T.length) 0 x5 (nI x) 0 n t0 y) Q := by
        intro x5 t0 h5
        refine u_X13_mapsOf_2 ?_; unfold qm_X13_mapsOf_2
        exact c3 t0 h5
      have un : ∀ b, b < a → y.2.1 77 b = -1 → b ∉ T ++ E := fun b hb e9 h9 => by
        rcases IE.2.2.2.2 b (by omega) with ⟨k1, -⟩ | ⟨-, q, hq, k4⟩
        · exact k1 h9
        · rw [k4] at e9
          exact absurd e9 (rn_neg1 (by omega))
      refine u_X13_mapsOf_1 ?_; unfold qm_X13_mapsOf_1
      refine w_rdF hMy.1.1.V (w_nzI (by decide) ?_)
      rw [hV, half_V (by omega)]
      exact w_leF (by omega) (by omega) (w_if (fun _ => w_rdI ml80 rfl (by omega) rfl (w_if (fun _ => c3 _ h5) (fun _ => w_rdI ml61 rfl (by omega) eo (w_rdI ml77 rfl (by omega) rfl (w_if (fun e9 => w_rdI ml61 rfl (by omega) eo (c2 _ _ (Or.inr ⟨o, rfl, ho, un o ho e9⟩))) (fun _ => w_rdI ml62 rfl (by omega) ei (w_rdI ml77 rfl (by omega) rfl (w_if (fun e9 => w_rdI ml62 rfl (by omega) ei (c2 _ _ (Or.inr ⟨i, rfl, hi, un i hi e9⟩))) (fun _ => w_rdI ml63 rfl (by omega) ej (w_rdI ml77 rfl (by omega) rfl (w_if (fun e9 => w_rdI ml63 rfl (by omega) ej (c2 _ _ (Or.inr ⟨j, rfl, hj, un j hj e9⟩))) (fun _ => c2 _ _ (Or.inl rfl))))))))))))) (fun _ => c4 _ _ h5))
  exact c1 c 0 (-1) (by omega) (Or.inl rfl)
theorem u_X13_maps_1 {x1 : Int32} {x2 : Int32} {x3 : Int32} {x4 : Int32} {x5 : Int32} {x6 : Int32} {t0 : Int32} {t1 : Int32} {z : ow_MS} {Q : (Int32 × ow_MS) → Prop} (H : Tt (fun K k => qm_X13_maps_1 K (q_X13_maps K k) x1 x2 x3 x4 x5 x6 t0 t1 z) Q) : Tt (fun K k => q_X13_maps K k 1 x1 x2 x3 x4 x5 x6 t0 t1 z) Q := w_un (fun _ _ => rfl) H
theorem u_X13_maps_2 {x1 : Int32} {x2 : Int32} {x3 : Int32} {x4 : Int32} {x5 : Int32} {x6 : Int32} {t0 : Int32} {t1 : Int32} {z : ow_MS} {Q : (Int32 × ow_MS) → Prop} (H : Tt (fun K k => qm_X13_maps_2 K (q_X13_maps K k) x1 x2 x3 x4 x5 x6 t0 t1 z) Q) : Tt (fun K k => q_X13_maps K k 2 x1 x2 x3 x4 x5 x6 t0 t1 z) Q := w_un (fun _ _ => rfl) H
theorem e_X13_maps {x1 : Int32} {x2 : Int32} {z : ow_MS} {Q : (Int32 × ow_MS) → Prop} (H : Tt (fun K k => q_X13_maps K k 0 x1 x2 0 0 0 0 0 0 z) Q) : Te (fun K => qe_X13_maps K x1 x2 z) Q := w_te H
theorem u_X13_maps_0 {x1 : Int32} {x2 : Int32} {x3 : Int32} {x4 : Int32} {x5 : Int32} {x6 : Int32} {t0 : Int32} {t1 : Int32} {z : ow_MS} {Q : (Int32 × ow_MS) → Prop} (H : Tt (fun K k => qm_X13_maps_0 K (q_X13_maps K k) x1 x2 x3 x4 x5 x6 t0 t1 z) Q) : Tt (fun K k => q_X13_maps K k 0 x1 x2 x3 x4 x5 x6 t0 t1 z) Q := w_un (fun _ _ => rfl) H
theorem u_X13_maps_3 {x1 : Int32} {x2 : Int32} {x3 : Int32} {x4 : Int32} {x5 : Int32} {x6 : Int32} {t0 : Int32} {t1 : Int32} {z : ow_MS} {Q : (Int32 × ow_MS) → Prop} (H : Tt (fun K k => qm_X13_maps_3 K (q_X13_maps K k) x1 x2 x3 x4 x5 x6 t0 t1 z) Q) : Tt (fun K k => q_X13_maps K k 3 x1 x2 x3 x4 x5 x6 t0 t1 z) Q := w_un (fun _ _ => rfl) H
theorem u_X13_maps_7 {x1 : Int32} {x2 : Int32} {x3 : Int32} {x4 : Int32} {x5 : Int32} {x6 : Int32} {t0 : Int32} {t1 : Int32} {z : ow_MS} {Q : (Int32 × ow_MS) → Prop} (H : Tt (fun K k => qm_X13_maps_7 K (q_X13_maps K k) x1 x2 x3 x4 x5 x6 t0 t1 z) Q) : Tt (fun K k => q_X13_maps K k 7 x1 x2 x3 x4 x5 x6 t0 t1 z) Q := w_un (fun _ _ => rfl) H
theorem u_X13_maps_5 {x1 : Int32} {x2 : Int32} {x3 : Int32} {x4 : Int32} {x5 : Int32} {x6 : Int32} {t0 : Int32} {t1 : Int32} {z : ow_MS} {Q : (Int32 × ow_MS) → Prop} (H : Tt (fun K k => qm_X13_maps_5 K (q_X13_maps K k) x1 x2 x3 x4 x5 x6 t0 t1 z) Q) : Tt (fun K k => q_X13_maps K k 5 x1 x2 x3 x4 x5 x6 t0 t1 z) Q := w_un (fun _ _ => rfl) H
theorem u_X13_maps_6 {x1 : Int32} {x2 : Int32} {x3 : Int32} {x4 : Int32} {x5 : Int32} {x6 : Int32} {t0 : Int32} {t1 : Int32} {z : ow_MS} {Q : (Int32 × ow_MS) → Prop} (H : Tt (fun K k => qm_X13_maps_6 K (q_X13_maps K k) x1 x2 x3 x4 x5 x6 t0 t1 z) Q) : Tt (fun K k => q_X13_maps K k 6 x1 x2 x3 x4 x5 x6 t0 t1 z) Q := w_un (fun _ _ => rfl) H
theorem u_X13_maps_4 {x1 : Int32} {x2 : Int32} {x3 : Int32} {x4 : Int32} {x5 : Int32} {x6 : Int32} {t0 : Int32} {t1 : Int32} {z : ow_MS} {Q : (Int32 × ow_MS) → Prop} (H : Tt (fun K k => qm_X13_maps_4 K (q_X13_maps K k) x1 x2 x3 x4 x5 x6 t0 t1 z) Q) : Tt (fun K k => q_X13_maps K k 4 x1 x2 x3 x4 x5 x6 t0 t1 z) Q := w_un (fun _ _ => rfl) H
theorem tp_maps {d k : Int32} (hX : ∀ W, X W → XM W) (h : gI X z) : Te (fun K => qe_X13_maps K d k z) (fun r => gI X r.2) := by
  have h1 := gI_1 (c := 0) h
  have c1 : ∀ {x1 x2 : Int32} {y : ow_MS}, gI X y → Tt (fun K i => q_X13_maps K i 1 x1 x2 0 0 0 0 0 0 y) (fun r => gI X r.2) := by
    intro x1 x2 y hy
    refine u_X13_maps_1 ?_; unfold qm_X13_maps_1
    exact w_fail hy
  have c2 : ∀ {x1 x2 : Int32} {y : ow_MS}, gI X y → Tt (fun K i => q_X13_maps K i 2 x1 x2 0 0 0 0 0 0 y) (fun r => gI X r.2) := by
    intro x1 x2 y hy
    refine u_X13_maps_2 ?_; unfold qm_X13_maps_2
    exact w_fail hy
  refine e_X13_maps ?_
  refine u_X13_maps_0 ?_; unfold qm_X13_maps_0
  refine w_wrF (w_has h1.2.1 (w_ifT rfl (w_fail h1)) (fun e A sg he hx hv hne => w_ifF (by decide) (w_if (fun _ => c1 h1) (fun h0 => w_if (fun h4 => ?_) (fun _ => c1 h1)))))
  subst hx
  obtain ⟨m, hm1, hm4, rfl⟩ : ∃ m, 1 ≤ m ∧ m ≤ 4 ∧ k = nI m := by
    obtain ⟨a, ha, rfl⟩ := nI_of (x := k) (fun h9 => h0 (by
      rw [Int32.lt_iff_toInt_lt] at h9 ⊢
      exact Int.lt_trans h9 (by decide)))
    refine ⟨a, ?_, (nI_leI (b := 4) ha (by omega)).mp h4, rfl⟩
    rcases Nat.eq_zero_or_pos a with h9 | h9
    · exact absurd (show nI a < 1 by rw [h9]; decide) h0
    · exact h9
  refine w_cs0 (to_open pn1 he hv) (fun z2 ⟨o2, f2⟩ => ?_)
  have g2 : gI X z2 := gI_net pn1 f2 (fun g hg => by omega) h1
  have hl := o2.len
  have hC := o2.2.2.2
  refine w_rdF o2.1.V (w_lt (a := 14) (by omega) (by omega) (fun _ => c2 g2) (fun h14 => w_rdF (lk_C o2.1) (w_le (b := 4) (by omega) (by omega) (fun _ => ?_) (fun _ => c2 g2))))
  obtain ⟨c, hok, hc⟩ := o2.2.2.1
  have hV := okF_len hok
  refine w_cs0 (tn_split pn1 (by omega) (by omega) (wkF_ok o2.wk) o2.1) (fun z3 ⟨f3, P, p1, p2, _, _⟩ => ?_)
  have o3 : oNet z3 1000 A sg := oNet_fr f3 (fun g hg => by unfold frP at hg; omega) o2
  have g3 : gI X z3 := gI_net pn1 f3 (fun g hg => by unfold frP at hg; omega) g2
  refine w_cs0 (tp_arcs pn1 o3 hok) (fun z4 ⟨⟨a, ha, hI4⟩, f4⟩ => ?_)
  have o4 : oNet z4 1000 A sg := oNet_fr f4 (fun g hg => by unfold arcH at hg; omega) o3
  have g4 : gI X z4 := gI_fr f4 (fun g hg => by unfold arcH at hg; unfold per; omega) g3
  have hMz : mcI z4 1000 A sg c a := ⟨o4, hI4, hX _ g4.2.2.2.2.2.2⟩
  have hP4 : z4.1 1013 = nI P := by rw [(f4 1013 (by unfold arcH; omega)).1]; exact p1
  let F : Nat → Prop := fun g => 77 ≤ g ∧ g ≤ 80
  have mF : ∀ {y : ow_MS}, fr F z4 y → mcI y 1000 A sg c a := fun hf => mcI_fr pn1 hf (fun g hg => hg) hMz
  have gF : ∀ {y : ow_MS}, fr F z4 y → gI X y := fun hf => gI_fr hf (fun g hg => by have hg : 77 ≤ g ∧ g ≤ 80 := hg; unfold per; omega) g4
  have c3 : ∀ (d p : Nat) (x3 : Int32) (y : ow_MS), p + d = P → fr F z4 y → Tt (fun K i => q_X13_maps K i 3 (nI e) (nI m) x3 (nI p) 0 0 0 0 y) (fun r => gI X r.2) := by
    intro d
    induction d with
    | zero =>
      intro p x3 y hp hf
      refine u_X13_maps_3 ?_; unfold qm_X13_maps_3
      exact w_rdF (x := nI P) (by rw [(hf (1000 + 13) (by show ¬ (77 ≤ 1013 ∧ 1013 ≤ 80); omega)).1]; exact hP4) (w_leT (by omega) (by omega) (w_some (gF hf)))
    | succ d ih =>
      intro p x3 y hp hf
      have c7 : ∀ (x5 x6 t0 : Int32) (y : ow_MS), fr F z4 y → Tt (fun K i => q_X13_maps K i 7 (nI e) (nI m) x3 (nI p) x5 x6 t0 x3 y) (fun r => gI X r.2) := by
        intro x5 x6 t0 y hf
        refine u_X13_maps_7 ?_; unfold qm_X13_maps_7
        rw [nI_1]
        exact ih (p + 1) _ y (by omega) hf
      have c5 : ∀ (d v : Nat) (x5 : Int32) (y : ow_MS), v + d = A.flatten.length → fr F z4 y → (∀ b, b < 40 → y.2.1 77 b = -1) → Tt (fun K i => q_X13_maps K i 5 (nI e) (nI m) x3 (nI p) x5 (nI v) 0 0 y) (fun r => gI X r.2) := by
        intro d
        induction d with
        | zero =>
          intro v x5 y hv hf h77
          refine u_X13_maps_5 ?_; unfold qm_X13_maps_5
          have hf2 : fr F z4 (usF y 79 0) := fr_F2 hf (by show 77 ≤ 79 ∧ 79 ≤ 80; omega)
          refine w_rdF (mF hf).1.1.V (w_leT (by omega) (by omega) (w_wrF (w_if (fun _ => w_rdI ml73 rfl (by omega) rfl (c7 _ _ _ _ hf2)) (fun _ => ?_))))
          have hI0 : mgI (usF y 79 0) a m [] := ⟨po_usF_at, List.nodup_nil, fun b hb => absurd hb List.not_mem_nil, fun i b hb => (by simp at hb), fun b hb => Or.inl ⟨List.not_mem_nil, h77 b hb⟩⟩
          exact w_cs1 (tp_mapsOf pn1 hm1 hm4 hV (by omega) (by omega) (a - ([] : List Nat).length) 42 [] _ (Nat.le_refl _) (by show a - 0 < 42; omega) hI0 (mF hf2)) (fun v1 y1 ⟨_, f5⟩ => c7 _ _ _ y1 (fr_tr hf2 (fr_mono (fun g hg => by unfold gvH at hg; show 77 ≤ g ∧ g ≤ 80; omega) f5)))
        | succ d ih5 =>
          intro v x5 y hv hf h77
          have hvl : v < A.flatten.length := by omega
          have hO := (mF hf).1
          have hcx := (hO.cx hvl).1
          have hcc := (rn_c_in A v hvl).1
          have c6 : ∀ (t0 : Int32), Tt (fun K i => q_X13_maps K i 6 (nI e) (nI m) x3 (nI p) x5 (nI v) t0 0 y) (fun r => gI X r.2) := by
            intro t0
            refine u_X13_maps_6 ?_; unfold qm_X13_maps_6
            rw [nI_1]
            exact w_rdI (pl4 pn1) rfl (by omega) (lk_cu hO.1 hvl).1 (w_wrZ ml80 rfl (by omega) (ih5 (v + 1) _ _ (by omega) (fr_I2 hf (by show 77 ≤ 80 ∧ 80 ≤ 80; omega)) (fun b hb => rd_ot (by omega) (h77 b hb))))
          refine u_X13_maps_5 ?_; unfold qm_X13_maps_5
          exact w_rdF hO.1.V (w_leF (by omega) hvl (w_rdI (pl8 pn1) rfl (by omega) (lk_c hO.1 hvl) (w_rdI (pl12 pn1) rfl (by omega) rfl (w_if (fun _ => c6 _) (fun _ => c6 _)))))
      have c4 : ∀ (d b : Nat) (y : ow_MS), b + d = 40 → fr F z4 y → (∀ t, t < b → y.2.1 77 t = -1) → Tt (fun K i => q_X13_maps K i 4 (nI e) (nI m) x3 (nI p) 0 (nI b) 0 0 y) (fun r => gI X r.2) := by
        intro d
        induction d with
        | zero =>
          intro b y hb hf h77
          refine u_X13_maps_4 ?_; unfold qm_X13_maps_4
          exact w_leT (a := 40) (by omega) (by omega) (c5 A.flatten.length 0 0 y (by omega) hf (fun t ht => h77 t (by omega)))
        | succ d ih4 =>
          intro b y hb hf h77
          refine u_X13_maps_4 ?_; unfold qm_X13_maps_4
          rw [nI_1]
          refine w_leF (a := 40) (by omega) (by omega) (w_wrI ml77 rfl (by omega) (ih4 (b + 1) _ (by omega) (fr_I2 hf (by show 77 ≤ 77 ∧ 77 ≤ 80; omega)) (fun t ht => ?_)))
          by_cases htb : t = b
          · rw [htb, po_usI_at]
          · exact rd_ne htb (h77 t (by omega))
      refine u_X13_maps_3 ?_; unfold qm_X13_maps_3
      exact w_rdF (x := nI P) (by rw [(hf (1000 + 13) (by show ¬ (77 ≤ 1013 ∧ 1013 ≤ 80); omega)).1]; exact hP4) (w_leF (by omega) (by omega) (c4 40 0 y (by omega) hf (fun t ht => absurd ht (by omega))))
  exact c3 P 0 1 z4 (by omega) fr_rf
end MAPS2
