/-! summands: isParted, waitsFor -/
def zer (r : Nat → Int32) (V : Nat) : Nat := cE r 0 V
theorem zer_le {r : Nat → Int32} {u : Nat} : ∀ V, zer (upd r u 1) V ≤ zer r V
  | 0 => Nat.le_refl _
  | V + 1 => by
    have := zer_le (r := r) (u := u) V
    unfold zer at this ⊢
    show cE (upd r u 1) 0 V + (if upd r u 1 V = 0 then 1 else 0) ≤ cE r 0 V + if r V = 0 then 1 else 0
    by_cases h : V = u
    · rw [h, pk_us, if_neg (by decide)]
      rw [h] at this
      omega
    · rw [pk_un h]
      omega
theorem zer_lt {r : Nat → Int32} {u : Nat} (hr : r u = 0) : ∀ V, u < V → zer (upd r u 1) V < zer r V
  | 0, h => by omega
  | V + 1, h => by
    unfold zer
    show cE (upd r u 1) 0 V + (if upd r u 1 V = 0 then 1 else 0) < cE r 0 V + if r V = 0 then 1 else 0
    by_cases hv : V = u
    · have := zer_le (r := r) (u := u) V
      unfold zer at this
      rw [hv, pk_us, if_neg (by decide), hr, if_pos rfl]
      rw [hv] at this
      omega
    · have := zer_lt hr V (by omega)
      unfold zer at this
      rw [pk_un hv]
      omega
section SUM
variable {X : (Nat → Nat → Int32) → Prop} {z : ow_MS} {A : rn_L} {sg : Nat → Bool}
/-- what stands in reached while component c is looked at -/
def rEa (y : ow_MS) (A : rn_L) (c g h : Nat) : Prop := ∀ v, v < A.flatten.length → (y.2.1 38 v = 0 ∨ y.2.1 38 v = 1) ∧ (rn_c A v = c → (y.2.1 38 v = 1 ↔ g < v ∧ v ≤ h))
theorem u_X13_isParted_5 {x2 : Int32} {x3 : Int32} {x4 : Int32} {x5 : Int32} {x6 : Int32} {x7 : Int32} {x8 : Int32} {r1 : Nat} {t0 : Int32} {t1 : Int32} {z : ow_MS} {Q : (Int32 × ow_MS) → Prop} (H : Tt (fun K k => qm_X13_isParted_5 K (q_X13_isParted K k) x2 x3 x4 x5 x6 x7 x8 r1 t0 t1 z) Q) : Tt (fun K k => q_X13_isParted K k 5 x2 x3 x4 x5 x6 x7 x8 r1 t0 t1 z) Q := w_un (fun _ _ => rfl) H
theorem u_X13_isParted_4 {x2 : Int32} {x3 : Int32} {x4 : Int32} {x5 : Int32} {x6 : Int32} {x7 : Int32} {x8 : Int32} {r1 : Nat} {t0 : Int32} {t1 : Int32} {z : ow_MS} {Q : (Int32 × ow_MS) → Prop} (H : Tt (fun K k => qm_X13_isParted_4 K (q_X13_isParted K k) x2 x3 x4 x5 x6 x7 x8 r1 t0 t1 z) Q) : Tt (fun K k => q_X13_isParted K k 4 x2 x3 x4 x5 x6 x7 x8 r1 t0 t1 z) Q := w_un (fun _ _ => rfl) H
theorem u_X13_isParted_7 {x2 : Int32} {x3 : Int32} {x4 : Int32} {x5 : Int32} {x6 : Int32} {x7 : Int32} {x8 : Int32} {r1 : Nat} {t0 : Int32} {t1 : Int32} {z : ow_MS} {Q : (Int32 × ow_MS) → Prop} (H : Tt (fun K k => qm_X13_isParted_7 K (q_X13_isParted K k) x2 x3 x4 x5 x6 x7 x8 r1 t0 t1 z) Q) : Tt (fun K k => q_X13_isParted K k 7 x2 x3 x4 x5 x6 x7 x8 r1 t0 t1 z) Q := w_un (fun _ _ => rfl) H
theorem u_X13_isParted_6 {x2 : Int32} {x3 : Int32} {x4 : Int32} {x5 : Int32} {x6 : Int32} {x7 : Int32} {x8 : Int32} {r1 : Nat} {t0 : Int32} {t1 : Int32} {z : ow_MS} {Q : (Int32 × ow_MS) → Prop} (H : Tt (fun K k => qm_X13_isParted_6 K (q_X13_isParted K k) x2 x3 x4 x5 x6 x7 x8 r1 t0 t1 z) Q) : Tt (fun K k => q_X13_isParted K k 6 x2 x3 x4 x5 x6 x7 x8 r1 t0 t1 z) Q := w_un (fun _ _ => rfl) H
theorem u_X13_isParted_1 {x2 : Int32} {x3 : Int32} {x4 : Int32} {x5 : Int32} {x6 : Int32} {x7 : Int32} {x8 : Int32} {r1 : Nat} {t0 : Int32} {t1 : Int32} {z : ow_MS} {Q : (Int32 × ow_MS) → Prop} (H : Tt (fun K k => qm_X13_isParted_1 K (q_X13_isParted K k) x2 x3 x4 x5 x6 x7 x8 r1 t0 t1 z) Q) : Tt (fun K k => q_X13_isParted K k 1 x2 x3 x4 x5 x6 x7 x8 r1 t0 t1 z) Q := w_un (fun _ _ => rfl) H
theorem u_X13_isParted_3 {x2 : Int32} {x3 : Int32} {x4 : Int32} {x5 : Int32} {x6 : Int32} {x7 : Int32} {x8 : Int32} {r1 : Nat} {t0 : Int32} {t1 : Int32} {z : ow_MS} {Q : (Int32 × ow_MS) → Prop} (H : Tt (fun K k => qm_X13_isParted_3 K (q_X13_isParted K k) x2 x3 x4 x5 x6 x7 x8 r1 t0 t1 z) Q) : Tt (fun K k => q_X13_isParted K k 3 x2 x3 x4 x5 x6 x7 x8 r1 t0 t1 z) Q := w_un (fun _ _ => rfl) H
theorem u_X13_isParted_2 {x2 : Int32} {x3 : Int32} {x4 : Int32} {x5 : Int32} {x6 : Int32} {x7 : Int32} {x8 : Int32} {r1 : Nat} {t0 : Int32} {t1 : Int32} {z : ow_MS} {Q : (Int32 × ow_MS) → Prop} (H : Tt (fun K k => qm_X13_isParted_2 K (q_X13_isParted K k) x2 x3 x4 x5 x6 x7 x8 r1 t0 t1 z) Q) : Tt (fun K k => q_X13_isParted K k 2 x2 x3 x4 x5 x6 x7 x8 r1 t0 t1 z) Q := w_un (fun _ _ => rfl) H
theorem e_X13_isParted {r1 : Nat} {x2 : Int32} {x3 : Int32} {x4 : Int32} {z : ow_MS} {Q : (Int32 × ow_MS) → Prop} (H : Tt (fun K k => q_X13_isParted K k 0 x2 x3 x4 0 0 0 0 r1 0 0 z) Q) : Te (fun K => qe_X13_isParted K r1 x2 x3 x4 z) Q := w_te H
theorem u_X13_isParted_0 {x2 : Int32} {x3 : Int32} {x4 : Int32} {x5 : Int32} {x6 : Int32} {x7 : Int32} {x8 : Int32} {r1 : Nat} {t0 : Int32} {t1 : Int32} {z : ow_MS} {Q : (Int32 × ow_MS) → Prop} (H : Tt (fun K k => qm_X13_isParted_0 K (q_X13_isParted K k) x2 x3 x4 x5 x6 x7 x8 r1 t0 t1 z) Q) : Tt (fun K k => q_X13_isParted K k 0 x2 x3 x4 x5 x6 x7 x8 r1 t0 t1 z) Q := w_un (fun _ _ => rfl) H
theorem tp_parted {c g h : Nat} (hO : oNet z 1000 A sg) (hc : c < A.length) (hg1 : rn_b A c ≤ g) (hgh : g < h) (hh : h < rn_b A (c + 1)) : Te (fun K => qe_X13_isParted K 1000 (nI c) (nI g) (nI h) z) (fun r => fr (fun i => i = 38) z r.2 ∧ (r.1 = 0 ∨ r.1 = 1) ∧ (r.1 = 1 → rEa r.2 A c g h ∧ ∀ v, v < A.flatten.length → r.2.2.1 38 v = 1 → r.2.2.1 38 (mtf A v) = 1)) := by
  have hl := hO.len
  have hC := hO.2.2.2
  have hd := wkF_ok hO.wk
  have hbl := rn_b_le A (c + 1)
  obtain ⟨V, hV⟩ : ∃ V, V = A.flatten.length := ⟨_, rfl⟩
  have oY : ∀ {y : ow_MS}, fr (fun i => i = 38) z y → oNet y 1000 A sg := fun hf => oNet_fr hf (fun i hi => by omega) hO
  let Q : Int32 × ow_MS → Prop := fun r => fr (fun i => i = 38) z r.2 ∧ (r.1 = 0 ∨ r.1 = 1) ∧ (r.1 = 1 → rEa r.2 A c g h ∧ ∀ v, v < A.flatten.length → r.2.2.1 38 v = 1 → r.2.2.1 38 (mtf A v) = 1)
  have pass : ∀ (Z0 : Nat), (∀ (y : ow_MS), fr (fun i => i = 38) z y → rEa y A c g h → zer (y.2.1 38) V < Z0 → Tt (fun K i => q_X13_isParted K i 4 (nI c) (nI g) (nI h) 1 0 0 0 1000 0 0 y) Q) → ∀ (d v : Nat) (x5 : Int32) (y : ow_MS), v + d = V → fr (fun i => i = 38) z y → rEa y A c g h → (x5 = 0 ∧ zer (y.2.1 38) V ≤ Z0 ∧ (∀ v', v' < v → y.2.1 38 v' = 1 → y.2.1 38 (mtf A v') = 1) ∨ x5 = 1 ∧ zer (y.2.1 38) V < Z0) → Tt (fun K i => q_X13_isParted K i 5 (nI c) (nI g) (nI h) x5 (nI v) 0 0 1000 0 0 y) Q := by
    intro Z0 hag d
    induction d with
    | zero =>
      intro v x5 y hv hf hE hx
      have o2 := oY hf
      refine u_X13_isParted_5 ?_; unfold qm_X13_isParted_5
      refine w_rdF o2.1.V (w_leT (by omega) (by omega) ?_)
      rcases hx with ⟨e, h1, h2⟩ | ⟨e, h1⟩
      · subst e
        refine u_X13_isParted_4 ?_; unfold qm_X13_isParted_4
        refine w_ifT rfl (w_okZ (Or.inr rfl) (w_some ⟨hf, Or.inr rfl, fun _ => ⟨hE, fun v' hv' h9 => h2 v' (by omega) h9⟩⟩))
      · subst e
        exact hag y hf hE h1
    | succ d ih =>
      intro v x5 y hv hf hE hx
      have o2 := oY hf
      have hvl : v < A.flatten.length := by omega
      have hml := mtf_lt hd hvl
      have c7 : ∀ (x9 : Int32) (y2 : ow_MS), fr (fun i => i = 38) z y2 → rEa y2 A c g h → (x9 = 0 ∧ zer (y2.2.1 38) V ≤ Z0 ∧ (∀ v', v' < v + 1 → y2.2.1 38 v' = 1 → y2.2.1 38 (mtf A v') = 1) ∨ x9 = 1 ∧ zer (y2.2.1 38) V < Z0) → Tt (fun K i => q_X13_isParted K i 7 (nI c) (nI g) (nI h) x9 (nI v) 0 0 1000 0 0 y2) Q := by
        intro x9 y2 hf2 hE2 hx2
        refine u_X13_isParted_7 ?_; unfold qm_X13_isParted_7
        rw [nI_1]
        exact ih (v + 1) x9 y2 (by omega) hf2 hE2 hx2
      -- nothing to do at v
      have stay : (y.2.1 38 v = 1 → y.2.1 38 (mtf A v) = 1) → Tt (fun K i => q_X13_isParted K i 7 (nI c) (nI g) (nI h) x5 (nI v) 0 0 1000 0 0 y) Q := by
        intro hst
        refine c7 x5 y hf hE (hx.imp (fun ⟨e, h1, h2⟩ => ⟨e, h1, fun v' hv' h9 => ?_⟩) id)
        by_cases hvv : v' = v
        · rw [hvv] at h9 ⊢
          exact hst h9
        · exact h2 v' (by omega) h9
      refine u_X13_isParted_5 ?_; unfold qm_X13_isParted_5
      refine w_rdF o2.1.V (w_leF (by omega) (by omega) (w_rdI ml38 rfl (by omega) rfl (w_if (fun h0 => stay (fun h9 => by rw [h0] at h9; exact absurd h9 (by decide))) (fun h0 => w_rdI (pl7 pn1) rfl (by omega) (lk_m hd o2.1 hvl) (w_rdI ml38 rfl (by omega) rfl (w_if (fun hm0 => ?_) (fun hm0 => stay (fun _ => ((hE _ hml).1.resolve_left hm0)))))))))
      obtain ⟨k1, k2, k3⟩ := rn_c_in A (mtf A v) hml
      obtain ⟨k, hk⟩ : ∃ k, k = rn_c A (mtf A v) := ⟨_, rfl⟩
      rw [← hk] at k1 k2 k3
      have hbk := rn_b_le A (k + 1)
      refine w_rdI (pl7 pn1) rfl (by omega) (lk_m hd o2.1 hvl) (w_rdI (pl8 pn1) rfl (by omega) ((lk_c o2.1 hml).trans (by rw [← hk])) (w_eqN (by omega) (by omega) (fun _ => w_okZ (Or.inl rfl) (w_some ⟨hf, Or.inl rfl, fun h9 => absurd h9 (show ¬ ((0 : Int32) = 1) by decide)⟩)) (fun hkc => w_rdI (pl3 pn1) rfl (by omega) (lk_b o2.1 (by omega)) ?_)))
      -- the whole component k
      have fill : ∀ (d u : Nat) (y2 : ow_MS), u + d = rn_b A (k + 1) → rn_b A k ≤ u → fr (fun i => i = 38) z y2 → rEa y2 A c g h → (zer (y2.2.1 38) V ≤ zer (y.2.1 38) V ∧ (mtf A v < u → zer (y2.2.1 38) V < zer (y.2.1 38) V) ∧ (u ≤ mtf A v → y2.2.1 38 (mtf A v) = 0)) → Tt (fun K i => q_X13_isParted K i 6 (nI c) (nI g) (nI h) x5 (nI v) (nI k) (nI u) 1000 0 0 y2) Q := by
        intro d
        induction d with
        | zero =>
          intro u y2 hu hlo hf2 hE2 ⟨z1, z2, z3⟩
          have o3 := oY hf2
          refine u_X13_isParted_6 ?_; unfold qm_X13_isParted_6
          rw [nI_1]
          refine w_rdI (pl3 pn1) rfl (by omega) (lk_b o3.1 (by omega)) (w_leT (by omega) (by omega) (c7 1 y2 hf2 hE2 (Or.inr ⟨rfl, ?_⟩)))
          have := z2 (by omega)
          rcases hx with ⟨_, h1, _⟩ | ⟨_, h1⟩ <;> omega
        | succ d ihf =>
          intro u y2 hu hlo hf2 hE2 ⟨z1, z2, z3⟩
          have o3 := oY hf2
          have hul : u < A.flatten.length := by omega
          have huc : rn_c A u = k := rn_c_of A k u hlo (by omega)
          refine u_X13_isParted_6 ?_; unfold qm_X13_isParted_6
          rw [nI_1, nI_1]
          refine w_rdI (pl3 pn1) rfl (by omega) (lk_b o3.1 (by omega)) (w_leF (by omega) (by omega) (w_wrZ ml38 rfl (by omega) (ihf (u + 1) _ (by omega) (by omega) (fr_I2 hf2 rfl) (fun v' hv' => ?_) ?_)))
          · obtain ⟨e1, e2⟩ := hE2 v' hv'
            by_cases hvu : v' = u
            · rw [hvu]
              refine ⟨Or.inr po_usI_at, fun e9 => ?_⟩
              exact absurd (huc.symm.trans e9) (fun e8 => hkc e8)
            · rw [po_usI_ne hvu]
              exact ⟨e1, e2⟩
          · have er : (usI y2 38 u (vp_nar .boolean 1)).2.1 38 = upd (y2.2.1 38) u 1 := po_usI_row
            rw [er]
            have hle := zer_le (r := y2.2.1 38) (u := u) V
            refine ⟨by omega, fun h9 => ?_, fun h9 => ?_⟩
            · by_cases hum : u = mtf A v
              · have := zer_lt (r := y2.2.1 38) (u := u) (by rw [hum]; exact z3 (by omega)) V (by omega)
                omega
              · have := z2 (by omega)
                omega
            · rw [pk_un (by omega)]
              exact z3 (by omega)
      exact fill (rn_b A (k + 1) - rn_b A k) (rn_b A k) y (by omega) (Nat.le_refl _) hf hE ⟨Nat.le_refl _, fun h9 => by omega, fun _ => hm0⟩
  have wh : ∀ (u : Nat) (y : ow_MS), zer (y.2.1 38) V ≤ u → fr (fun i => i = 38) z y → rEa y A c g h → Tt (fun K i => q_X13_isParted K i 4 (nI c) (nI g) (nI h) 1 0 0 0 1000 0 0 y) Q := by
    intro u
    induction u with
    | zero =>
      intro y hu hf hE
      refine u_X13_isParted_4 ?_; unfold qm_X13_isParted_4
      exact w_ifF (by decide) (pass 0 (fun y2 _ _ h9 => by omega) V 0 0 y (by omega) hf hE (Or.inl ⟨rfl, hu, fun v' hv' => by omega⟩))
    | succ u ih =>
      intro y hu hf hE
      refine u_X13_isParted_4 ?_; unfold qm_X13_isParted_4
      exact w_ifF (by decide) (pass (u + 1) (fun y2 f2 e2 h9 => ih y2 (by omega) f2 e2) V 0 0 y (by omega) hf hE (Or.inl ⟨rfl, hu, fun v' hv' => by omega⟩))
  have ini : ∀ (d v : Nat) (y : ow_MS), v + d = V → fr (fun i => i = 38) z y → (∀ v', v' < v → (y.2.1 38 v' = 0 ∨ y.2.1 38 v' = 1) ∧ (y.2.1 38 v' = 1 ↔ g < v' ∧ v' ≤ h)) → Tt (fun K i => q_X13_isParted K i 1 (nI c) (nI g) (nI h) (nI v) 0 0 0 1000 0 0 y) Q := by
    intro d
    induction d with
    | zero =>
      intro v y hv hf hr
      refine u_X13_isParted_1 ?_; unfold qm_X13_isParted_1
      exact w_rdF (oY hf).1.V (w_leT (by omega) (by omega) (wh _ y (Nat.le_refl _) hf (fun v' hv' => ⟨(hr v' (by omega)).1, fun _ => (hr v' (by omega)).2⟩)))
    | succ d ih =>
      intro v y hv hf hr
      have c3 : ∀ (b : Bool), (b = true ↔ g < v ∧ v ≤ h) → Tt (fun K i => q_X13_isParted K i 3 (nI c) (nI g) (nI h) (nI v) 0 0 0 1000 (bZ b) (nI v) y) Q := by
        intro b hb
        refine u_X13_isParted_3 ?_; unfold qm_X13_isParted_3
        rw [nI_1]
        refine w_wrZ ml38 rfl (by omega) (ih (v + 1) _ (by omega) (fr_I2 hf rfl) (fun v' hv' => ?_))
        by_cases hvv : v' = v
        · rw [hvv, po_usI_at]
          cases b with
          | true => exact ⟨Or.inr rfl, fun _ => hb.mp rfl, fun _ => rfl⟩
          | false => exact ⟨Or.inl rfl, fun h9 => absurd h9 (by decide), fun h9 => absurd (hb.mpr h9) (by decide)⟩
        · rw [po_usI_ne hvv]
          exact hr v' (by omega)
      have c2 : ¬ (g < v ∧ v ≤ h) → Tt (fun K i => q_X13_isParted K i 2 (nI c) (nI g) (nI h) (nI v) 0 0 0 1000 (nI v) 0 y) Q := by
        intro hno
        refine u_X13_isParted_2 ?_; unfold qm_X13_isParted_2
        exact c3 false ⟨fun h9 => absurd h9 (by decide), fun h9 => absurd h9 hno⟩
      refine u_X13_isParted_1 ?_; unfold qm_X13_isParted_1
      exact w_rdF (oY hf).1.V (w_leF (by omega) (by omega) (w_le (by omega) (by omega) (fun h9 => c2 (by omega)) (fun h9 => w_lt (by omega) (by omega) (fun h8 => c2 (by omega)) (fun h8 => c3 true ⟨fun _ => ⟨h9, h8⟩, fun _ => rfl⟩))))
  refine e_X13_isParted ?_
  refine u_X13_isParted_0 ?_; unfold qm_X13_isParted_0
  exact ini V 0 z (by omega) fr_rf (fun v' hv' => by omega)
/-- how many visits are reached, or not -/
def cnR (r : Nat → Int32) (b : Bool) (V : Nat) : Nat := cE r (bZ b) V
theorem cE_filter {r : Nat → Int32} {x : Int32} : ∀ V, ((List.range V).filter (fun v => decide (r v = x))).length = cE r x V
  | 0 => rfl
  | V + 1 => by
    rw [List.range_succ, List.filter_append, List.length_append, cE_filter V]
    show _ = cE r x V + if r V = x then 1 else 0
    by_cases h : r V = x <;> simp [h]
theorem e_X13_waitsFor {r1 : Nat} {x2 : Int32} {x3 : Int32} {z : ow_MS} {Q : ow_MS → Prop} (H : Tt (fun K k => q_X13_waitsFor K k 0 x2 x3 0 0 0 r1 z) Q) : Te (fun K => qe_X13_waitsFor K r1 x2 x3 z) Q := w_te H
theorem u_X13_waitsFor_0 {x2 : Int32} {x3 : Int32} {x4 : Int32} {x5 : Int32} {x6 : Int32} {r1 : Nat} {z : ow_MS} {Q : ow_MS → Prop} (H : Tt (fun K k => qm_X13_waitsFor_0 K (q_X13_waitsFor K k) x2 x3 x4 x5 x6 r1 z) Q) : Tt (fun K k => q_X13_waitsFor K k 0 x2 x3 x4 x5 x6 r1 z) Q := w_un (fun _ _ => rfl) H
theorem u_X13_waitsFor_1 {x2 : Int32} {x3 : Int32} {x4 : Int32} {x5 : Int32} {x6 : Int32} {r1 : Nat} {z : ow_MS} {Q : ow_MS → Prop} (H : Tt (fun K k => qm_X13_waitsFor_1 K (q_X13_waitsFor K k) x2 x3 x4 x5 x6 r1 z) Q) : Tt (fun K k => q_X13_waitsFor K k 1 x2 x3 x4 x5 x6 r1 z) Q := w_un (fun _ _ => rfl) H
theorem u_X13_waitsFor_4 {x2 : Int32} {x3 : Int32} {x4 : Int32} {x5 : Int32} {x6 : Int32} {r1 : Nat} {z : ow_MS} {Q : ow_MS → Prop} (H : Tt (fun K k => qm_X13_waitsFor_4 K (q_X13_waitsFor K k) x2 x3 x4 x5 x6 r1 z) Q) : Tt (fun K k => q_X13_waitsFor K k 4 x2 x3 x4 x5 x6 r1 z) Q := w_un (fun _ _ => rfl) H
theorem u_X13_waitsFor_2 {x2 : Int32} {x3 : Int32} {x4 : Int32} {x5 : Int32} {x6 : Int32} {r1 : Nat} {z : ow_MS} {Q : ow_MS → Prop} (H : Tt (fun K k => qm_X13_waitsFor_2 K (q_X13_waitsFor K k) x2 x3 x4 x5 x6 r1 z) Q) : Tt (fun K k => q_X13_waitsFor K k 2 x2 x3 x4 x5 x6 r1 z) Q := w_un (fun _ _ => rfl) H
theorem u_X13_waitsFor_3 {x2 : Int32} {x3 : Int32} {x4 : Int32} {x5 : Int32} {x6 : Int32} {r1 : Nat} {z : ow_MS} {Q : ow_MS → Prop} (H : Tt (fun K k => qm_X13_waitsFor_3 K (q_X13_waitsFor K k) x2 x3 x4 x5 x6 r1 z) Q) : Tt (fun K k => q_X13_waitsFor K k 3 x2 x3 x4 x5 x6 r1 z) Q := w_un (fun _ _ => rfl) H
theorem tp_waits {n at9 : Nat} {b : Bool} (hn : mw_net n) (hn3 : n ≠ 3000) (ha : at9 < 16) (hO : oNet z n A sg) (hcl : ∀ v, v < A.flatten.length → z.2.1 38 v = bZ b → z.2.1 38 (mtf A v) = bZ b) : Te (fun K => qe_X13_waitsFor K n (bZ b) (nI at9) z) (fun z1 => (∃ A' sg' c, vRow z1 37 (32 * at9) A' sg' ∧ okF A'.flatten c ∧ 2 * c = cE (z.2.1 38) (bZ b) A.flatten.length) ∧ fr (fun g => 2 ≤ g ∧ g ≤ 9 ∨ g = 37 ∨ 3001 ≤ g ∧ g ≤ 3013) z z1 ∧ ∀ i, i < 32 * at9 ∨ 32 * at9 + 32 ≤ i → z1.2.1 37 i = z.2.1 37 i) := by
  have hmn := net_mod hn
  have hl := hO.len
  have hC := hO.2.2.2
  have hd := wkF_ok hO.wk
  let Q : ow_MS → Prop := fun z1 => (∃ A' sg' c, vRow z1 37 (32 * at9) A' sg' ∧ okF A'.flatten c ∧ 2 * c = cE (z.2.1 38) (bZ b) A.flatten.length) ∧ fr (fun g => 2 ≤ g ∧ g ≤ 9 ∨ g = 37 ∨ 3001 ≤ g ∧ g ≤ 3013) z z1 ∧ ∀ i, i < 32 * at9 ∨ 32 * at9 + 32 ≤ i → z1.2.1 37 i = z.2.1 37 i
  refine e_X13_waitsFor ?_
  refine u_X13_waitsFor_0 ?_; unfold qm_X13_waitsFor_0
  refine w_cs0 (bm_clear (A := A) pn3) (fun z3 ⟨b3, f3⟩ => w_cs0 (tn_signs pn3 hn (fun e => hn3 e.symm)) (fun z4 ⟨f4, s4⟩ => ?_))
  let I : ow_MS → Prop := fun y => fr (fun g => 3001 ≤ g ∧ g ≤ 3006) z y ∧ ∀ x, x < 40 → y.2.1 3006 x = z.2.1 (n + 6) x
  have oI : ∀ {y : ow_MS}, I y → oNet y n A sg := fun hI => oNet_fr hI.1 (fun g hg => by omega) hO
  have stI : ∀ {P : Nat → Prop} {y y2 : ow_MS}, I y → fr P y y2 → (∀ g, P g → 3001 ≤ g ∧ g ≤ 3005) → I y2 := fun hI hf hP => ⟨fr_tr hI.1 (fr_mono (fun g hg => by have := hP g hg; omega) hf), fun x hx => by rw [(hf 3006 (fun h9 => by have := hP _ h9; omega)).2.1]; exact hI.2 x hx⟩
  have e38 : ∀ {y : ow_MS}, I y → y.2.1 38 = z.2.1 38 := fun hI => (hI.1 38 (by omega)).2.1
  have out : ∀ (k c q : Nat) (y : ow_MS), c + k = A.length → q ≤ c → I y → bmE y 3000 A (fun j => j < rn_b A c ∧ z.2.1 38 j = bZ b) q → Tt (fun K i => q_X13_waitsFor K i 1 (bZ b) (nI at9) (nI c) 0 0 n y) Q := by
    intro k
    induction k with
    | zero =>
      intro c q y hc hq hI hb
      have hce : c = A.length := by omega
      rw [hce, rn_b_len] at hb
      have hP : ∀ j, (j < A.flatten.length ∧ z.2.1 38 j = bZ b) → mtf A j < A.flatten.length ∧ z.2.1 38 (mtf A j) = bZ b := fun j hj => ⟨mtf_lt hd hj.1, hcl j hj.1 hj.2⟩
      have hs : ∀ j, (j < A.flatten.length ∧ z.2.1 38 j = bZ b) → s1 (y.2.1 (3000 + 6) (crs A j)) := fun j hj => by
        obtain ⟨x1, x2, x3⟩ := hO.cx hj.1
        show s1 (y.2.1 3006 (crs A j))
        rw [hI.2 _ (by omega)]
        exact s1_if x3
      have hN : mNet y 3000 := bmE_net hO.wk hl (by omega) (fun j hj => hj.1) hP hs hb
      obtain ⟨A1, sg1, n1, n2, n3, n4, n5⟩ := hN
      obtain ⟨C, m1, m2, m3, m4⟩ := hb
      have hlenC : C.flatten.length = cE (z.2.1 38) (bZ b) A.flatten.length := by
        rw [← cE_filter]
        refine nodup_eq m3 (nodup_filter List.nodup_range) (fun j => ?_)
        rw [m4 j, List.mem_filter, List.mem_range, decide_eq_true_iff]
      have hlen1 : A1.flatten.length = C.flatten.length := by
        have e1 := n1.1
        have e2 := m2.1
        rw [e2, List.append_nil, List.append_nil, fl_map, List.length_map] at e1
        have hb1 : C.flatten.length ≤ A.flatten.length := by
          rw [hlenC]
          exact cE_le _
        exact ((nI_eq (by omega) (by omega)).mp e1).symm
      refine u_X13_waitsFor_1 ?_; unfold qm_X13_waitsFor_1
      rw [show (32 : Int32) * nI at9 = nI (32 * at9) from pk_mul 32 at9]
      refine w_rdF (lk_C (oI hI).1) (w_leT (by omega) (by omega) (w_cs0 (tr_pack pn3 (by omega) ml37 (by omega) (by omega) (by omega) (by omega) n3 n1 n2) (fun y2 hy2 => w_some ?_)))
      obtain ⟨m, P, k1, k2, k3, k4, -, -⟩ := hy2
      obtain ⟨A', sg', c', e, ok, l1, l2⟩ := pkR_ok (sg := sg1) n3 k1
      rw [e] at k2
      refine ⟨⟨A', sg', c', ⟨k2, ⟨c', ok, by omega⟩, by omega⟩, ok, by omega⟩, fr_tr (fr_mono (fun g hg => by omega) hI.1) (fr_mono (fun g hg => by unfold frQ at hg; omega) k3), fun i hi => ?_⟩
      rw [k4 i hi, (hI.1 37 (by omega)).2.1]
    | succ k ih =>
      intro c q y hc hq hI hb
      have m1 := rn_b_mono A c
      have m2 := rn_b_le A (c + 1)
      have c4 : ∀ (x5 x6 : Int32) (q2 : Nat) (y2 : ow_MS), q2 ≤ c + 1 → I y2 → bmE y2 3000 A (fun j => j < rn_b A (c + 1) ∧ z.2.1 38 j = bZ b) q2 → Tt (fun K i => q_X13_waitsFor K i 4 (bZ b) (nI at9) (nI c) x5 x6 n y2) Q := by
        intro x5 x6 q2 y2 hq2 hI2 hb2
        refine u_X13_waitsFor_4 ?_; unfold qm_X13_waitsFor_4
        rw [nI_1]
        exact ih (c + 1) q2 y2 (by omega) hq2 hI2 hb2
      have inn : ∀ (d i k9 : Nat) (y : ow_MS), i + d = rn_b A (c + 1) → rn_b A c ≤ i → k9 ≤ i → I y → bm y 3000 A (fun j => j < i ∧ z.2.1 38 j = bZ b) q → (k9 = 0 → bmE y 3000 A (fun j => j < i ∧ z.2.1 38 j = bZ b) q) → Tt (fun K i9 => q_X13_waitsFor K i9 2 (bZ b) (nI at9) (nI c) (nI k9) (nI i) n y) Q := by
        intro d
        induction d with
        | zero =>
          intro i k9 y hi hlo hk9 hI hb hb0
          have hie : i = rn_b A (c + 1) := by omega
          rw [hie] at hb hb0 ⊢
          refine u_X13_waitsFor_2 ?_; unfold qm_X13_waitsFor_2
          rw [nI_1]
          refine w_rdI (pl3 hn) rfl (by omega) (lk_b (oI hI).1 (by omega)) (w_leT (by omega) (Nat.le_refl _) (w_le (b := 0) (by omega) (by omega) (fun h0 => c4 _ _ q y (by omega) hI (hb0 (by omega))) (fun h0 => w_cs0 (bm_end pn3 (by omega) hb) (fun y2 ⟨g1, g2⟩ => c4 _ _ (q + 1) y2 (by omega) (stI hI g2 (fun g hg => by omega)) g1))))
        | succ d ihd =>
          intro i k9 y hi hlo hk9 hI hb hb0
          have hil : i < A.flatten.length := by omega
          refine u_X13_waitsFor_2 ?_; unfold qm_X13_waitsFor_2
          rw [nI_1, nI_1]
          refine w_rdI (pl3 hn) rfl (by omega) (lk_b (oI hI).1 (by omega)) (w_leF (by omega) (by omega) (w_rdI ml38 rfl (by omega) (by rw [e38 hI]) (w_if (fun h9 => w_rdI (pl4 hn) rfl (by omega) (lk_cu (oI hI).1 hil).1 (w_rdI (pl5 hn) rfl (by omega) (lk_cu (oI hI).1 hil).2 (w_cs0 (bm_add (i := i) pn3 (by omega) (fun j hj => by omega) (fun hj => by omega) rfl rfl hb) (fun y2 ⟨g1, g2⟩ => ?_)))) (fun h9 => ?_))))
          · refine u_X13_waitsFor_3 ?_; unfold qm_X13_waitsFor_3
            rw [nI_1]
            refine ihd (i + 1) (k9 + 1) y2 (by omega) (by omega) (by omega) (stI hI g2 (fun g hg => by omega)) (bm_eq g1 (fun j => ⟨fun h8 => ?_, fun h8 => ?_⟩)) (fun e => by omega)
            · rcases h8 with h8 | h8
              · exact ⟨by omega, h8.2⟩
              · rw [h8]
                exact ⟨by omega, h9⟩
            · by_cases hji : j = i
              · exact Or.inr hji
              · exact Or.inl ⟨by omega, h8.2⟩
          · refine u_X13_waitsFor_3 ?_; unfold qm_X13_waitsFor_3
            rw [nI_1]
            have eqj : ∀ j, (j < i ∧ z.2.1 38 j = bZ b) ↔ (j < i + 1 ∧ z.2.1 38 j = bZ b) := fun j => ⟨fun h8 => ⟨by omega, h8.2⟩, fun h8 => ⟨by
              by_cases hji : j = i
              · rw [hji] at h8
                exact absurd h8.2 h9
              · omega, h8.2⟩⟩
            exact ihd (i + 1) k9 y (by omega) (by omega) (by omega) hI (bm_eq hb eqj) (fun e => bmE_eq (hb0 e) eqj)
      refine u_X13_waitsFor_1 ?_; unfold qm_X13_waitsFor_1
      exact w_rdF (lk_C (oI hI).1) (w_leF (by omega) (by omega) (w_rdI (pl3 hn) rfl (by omega) (lk_b (oI hI).1 (by omega)) (inn (rn_b A (c + 1) - rn_b A c) (rn_b A c) 0 y (by omega) (Nat.le_refl _) (by omega) hI hb.b (fun _ => hb))))
  refine out A.length 0 0 z4 (by omega) (Nat.le_refl _) ⟨fr_tr (fr_mono (fun g hg => by omega) f3) (fr_mono (fun g hg => by omega) f4), fun x hx => ?_⟩ (bmE_eq (bmE_fr f4 (fun g hg => by omega) b3) (fun j => ⟨fun h9 => h9.elim, fun h9 => by rw [rn_b0] at h9; omega⟩))
  rw [show z4.2.1 3006 x = z3.2.1 (n + 6) x from s4 x hx, (f3 (n + 6) (by omega)).2.1]
end SUM
