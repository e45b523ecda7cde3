/-! summands: isParted, exactly (made from parted by an edit) -/
section XSP
variable {z : ow_MS} {A : rn_L} {sg : Nat → Bool}
def gdM (A : rn_L) (c g h : Nat) (M : Nat → Nat) : Prop := (∀ v, v < A.flatten.length → M (mtf A v) = M v) ∧ (∀ u v, u < A.flatten.length → v < A.flatten.length → rn_c A u = rn_c A v → rn_c A u ≠ c → M u = M v) ∧ ∀ v, g < v → v ≤ h → M v = M h
def rEa2 (y : ow_MS) (A : rn_L) (c g h : Nat) : Prop := rEa y A c g h ∧ ∀ M, gdM A c g h M → ∀ v, v < A.flatten.length → y.2.1 38 v = 1 → M v = M h
def unU (y : ow_MS) (A : rn_L) (c : Nat) : Prop := ∀ a b, a < A.flatten.length → b < A.flatten.length → rn_c A a = rn_c A b → rn_c A a ≠ c → y.2.1 38 a = y.2.1 38 b
def rEa3 (y : ow_MS) (A : rn_L) (c g h : Nat) : Prop := rEa2 y A c g h ∧ unU y A c
theorem xp_parted {c g h : Nat} (hO : oNet z 1000 A sg) (hc : c < A.length) (hg1 : rn_b A c ≤ g) (hgh : g < h) (hh : h < rn_b A (c + 1)) : Te (fun K => qe_X13_isParted K 1000 (nI c) (nI g) (nI h) z) (fun r => fr (fun i => i = 38) z r.2 ∧ (r.1 = 0 ∨ r.1 = 1) ∧ (r.1 = 1 → rEa r.2 A c g h ∧ (∀ v, v < A.flatten.length → r.2.2.1 38 v = 1 → r.2.2.1 38 (mtf A v) = 1) ∧ unU r.2 A c) ∧ (r.1 = 0 → ∀ M, gdM A c g h M → ∃ u, u < A.flatten.length ∧ rn_c A u = c ∧ ¬ (g < u ∧ u ≤ h) ∧ M u = M h)) := by
  have hl := hO.len
  have hC := hO.2.2.2
  have hd := wkF_ok hO.wk
  have hbl := rn_b_le A (c + 1)
  obtain ⟨V, hV⟩ : ∃ V, V = A.flatten.length := ⟨_, rfl⟩
  have oY : ∀ {y : ow_MS}, fr (fun i => i = 38) z y → oNet y 1000 A sg := fun hf => oNet_fr hf (fun i hi => by omega) hO
  let Q : Int32 × ow_MS → Prop := fun r => fr (fun i => i = 38) z r.2 ∧ (r.1 = 0 ∨ r.1 = 1) ∧ (r.1 = 1 → rEa r.2 A c g h ∧ (∀ v, v < A.flatten.length → r.2.2.1 38 v = 1 → r.2.2.1 38 (mtf A v) = 1) ∧ unU r.2 A c) ∧ (r.1 = 0 → ∀ M, gdM A c g h M → ∃ u, u < A.flatten.length ∧ rn_c A u = c ∧ ¬ (g < u ∧ u ≤ h) ∧ M u = M h)
  have pass : ∀ (Z0 : Nat), (∀ (y : ow_MS), fr (fun i => i = 38) z y → rEa3 y A c g h → zer (y.2.1 38) V < Z0 → Tt (fun K i => q_X13_isParted K i 4 (nI c) (nI g) (nI h) 1 0 0 0 1000 0 0 y) Q) → ∀ (d v : Nat) (x5 : Int32) (y : ow_MS), v + d = V → fr (fun i => i = 38) z y → rEa3 y A c g h → (x5 = 0 ∧ zer (y.2.1 38) V ≤ Z0 ∧ (∀ v', v' < v → y.2.1 38 v' = 1 → y.2.1 38 (mtf A v') = 1) ∨ x5 = 1 ∧ zer (y.2.1 38) V < Z0) → Tt (fun K i => q_X13_isParted K i 5 (nI c) (nI g) (nI h) x5 (nI v) 0 0 1000 0 0 y) Q := by
    intro Z0 hag d
    induction d with
    | zero =>
      intro v x5 y hv hf hE hx
      have o2 := oY hf
      refine u_X13_isParted_5 ?_; unfold qm_X13_isParted_5
      refine w_rdF o2.1.V (w_leT (by omega) (by omega) ?_)
      rcases hx with ⟨e, h1, h2⟩ | ⟨e, h1⟩
      · subst e
        refine u_X13_isParted_4 ?_; unfold qm_X13_isParted_4
        refine w_ifT rfl (w_okZ (Or.inr rfl) (w_some ⟨hf, Or.inr rfl, fun _ => ⟨hE.1.1, fun v' hv' h9 => h2 v' (by omega) h9, hE.2⟩, fun h9 => absurd h9 (show ¬ ((1 : Int32) = 0) by decide)⟩))
      · subst e
        exact hag y hf hE h1
    | succ d ih =>
      intro v x5 y hv hf hE hx
      have o2 := oY hf
      have hvl : v < A.flatten.length := by omega
      have hml := mtf_lt hd hvl
      have c7 : ∀ (x9 : Int32) (y2 : ow_MS), fr (fun i => i = 38) z y2 → rEa3 y2 A c g h → (x9 = 0 ∧ zer (y2.2.1 38) V ≤ Z0 ∧ (∀ v', v' < v + 1 → y2.2.1 38 v' = 1 → y2.2.1 38 (mtf A v') = 1) ∨ x9 = 1 ∧ zer (y2.2.1 38) V < Z0) → Tt (fun K i => q_X13_isParted K i 7 (nI c) (nI g) (nI h) x9 (nI v) 0 0 1000 0 0 y2) Q := by
        intro x9 y2 hf2 hE2 hx2
        refine u_X13_isParted_7 ?_; unfold qm_X13_isParted_7
        rw [nI_1]
        exact ih (v + 1) x9 y2 (by omega) hf2 hE2 hx2
      -- nothing to do at v
      have stay : (y.2.1 38 v = 1 → y.2.1 38 (mtf A v) = 1) → Tt (fun K i => q_X13_isParted K i 7 (nI c) (nI g) (nI h) x5 (nI v) 0 0 1000 0 0 y) Q := by
        intro hst
        refine c7 x5 y hf hE (hx.imp (fun ⟨e, h1, h2⟩ => ⟨e, h1, fun v' hv' h9 => ?_⟩) id)
        by_cases hvv : v' = v
        · rw [hvv] at h9 ⊢
          exact hst h9
        · exact h2 v' (by omega) h9
      refine u_X13_isParted_5 ?_; unfold qm_X13_isParted_5
      refine w_rdF o2.1.V (w_leF (by omega) (by omega) (w_rdI ml38 rfl (by omega) rfl (w_if (fun h0 => stay (fun h9 => by rw [h0] at h9; exact absurd h9 (by decide))) (fun h0 => w_rdI (pl7 pn1) rfl (by omega) (lk_m hd o2.1 hvl) (w_rdI ml38 rfl (by omega) rfl (w_if (fun hm0 => ?_) (fun hm0 => stay (fun _ => ((hE.1.1 _ hml).1.resolve_left hm0)))))))))
      obtain ⟨k1, k2, k3⟩ := rn_c_in A (mtf A v) hml
      obtain ⟨k, hk⟩ : ∃ k, k = rn_c A (mtf A v) := ⟨_, rfl⟩
      rw [← hk] at k1 k2 k3
      have hbk := rn_b_le A (k + 1)
      refine w_rdI (pl7 pn1) rfl (by omega) (lk_m hd o2.1 hvl) (w_rdI (pl8 pn1) rfl (by omega) ((lk_c o2.1 hml).trans (by rw [← hk])) (w_eqN (by omega) (by omega) (fun hkc => w_okZ (Or.inl rfl) (w_some ⟨hf, Or.inl rfl, fun h9 => absurd h9 (show ¬ ((0 : Int32) = 1) by decide), fun _ M hM => ⟨mtf A v, hml, hk.symm.trans hkc, fun h9 => ?_, (hM.1 v hvl).trans (hE.1.2 M hM v hvl ((hE.1.1 v hvl).1.resolve_left h0))⟩⟩)) (fun hkc => w_rdI (pl3 pn1) rfl (by omega) (lk_b o2.1 (by omega)) ?_)))
      · have := ((hE.1.1 _ hml).2 (hk.symm.trans hkc)).mpr h9
        rw [hm0] at this
        exact absurd this (by decide)
      -- the whole component k
      have fill : ∀ (d u : Nat) (y2 : ow_MS), u + d = rn_b A (k + 1) → rn_b A k ≤ u → fr (fun i => i = 38) z y2 → rEa2 y2 A c g h → (∀ v', v' < A.flatten.length → y2.2.1 38 v' = if rn_c A v' = k ∧ v' < u then 1 else y.2.1 38 v') → (zer (y2.2.1 38) V ≤ zer (y.2.1 38) V ∧ (mtf A v < u → zer (y2.2.1 38) V < zer (y.2.1 38) V) ∧ (u ≤ mtf A v → y2.2.1 38 (mtf A v) = 0)) → Tt (fun K i => q_X13_isParted K i 6 (nI c) (nI g) (nI h) x5 (nI v) (nI k) (nI u) 1000 0 0 y2) Q := by
        intro d
        induction d with
        | zero =>
          intro u y2 hu hlo hf2 hE2 hU ⟨z1, z2, z3⟩
          have o3 := oY hf2
          refine u_X13_isParted_6 ?_; unfold qm_X13_isParted_6
          rw [nI_1]
          refine w_rdI (pl3 pn1) rfl (by omega) (lk_b o3.1 (by omega)) (w_leT (by omega) (by omega) (c7 1 y2 hf2 ⟨hE2, fun a b ha hb e1 e2 => ?_⟩ (Or.inr ⟨rfl, ?_⟩)))
          · rw [hU a ha, hU b hb]
            by_cases h9 : rn_c A a = k
            · have a1 := rn_c_in A a ha
              have b1 := rn_c_in A b hb
              rw [← e1, h9] at b1
              rw [h9] at a1
              rw [if_pos ⟨h9, by omega⟩, if_pos ⟨e1.symm.trans h9, by omega⟩]
            · rw [if_neg (fun h8 => h9 h8.1), if_neg (fun h8 => h9 (e1.trans h8.1))]
              exact hE.2 a b ha hb e1 e2
          have := z2 (by omega)
          rcases hx with ⟨_, h1, _⟩ | ⟨_, h1⟩ <;> omega
        | succ d ihf =>
          intro u y2 hu hlo hf2 hE2 hU ⟨z1, z2, z3⟩
          have o3 := oY hf2
          have hul : u < A.flatten.length := by omega
          have huc : rn_c A u = k := rn_c_of A k u hlo (by omega)
          refine u_X13_isParted_6 ?_; unfold qm_X13_isParted_6
          rw [nI_1, nI_1]
          refine w_rdI (pl3 pn1) rfl (by omega) (lk_b o3.1 (by omega)) (w_leF (by omega) (by omega) (w_wrZ ml38 rfl (by omega) (ihf (u + 1) _ (by omega) (by omega) (fr_I2 hf2 rfl) ⟨fun v' hv' => ?_, fun M hM v' hv' h1 => ?_⟩ (fun v' hv' => ?_) ?_)))
          · obtain ⟨e1, e2⟩ := hE2.1 v' hv'
            by_cases hvu : v' = u
            · rw [hvu]
              refine ⟨Or.inr po_usI_at, fun e9 => ?_⟩
              exact absurd (huc.symm.trans e9) (fun e8 => hkc e8)
            · rw [po_usI_ne hvu]
              exact ⟨e1, e2⟩
          · by_cases hvu : v' = u
            · rw [hvu]
              rw [hM.2.1 u (mtf A v) hul hml (huc.trans hk) (by rw [huc]; exact hkc), hM.1 v hvl]
              exact hE.1.2 M hM v hvl ((hE.1.1 v hvl).1.resolve_left h0)
            · rw [po_usI_ne hvu] at h1
              exact hE2.2 M hM v' hv' h1
          · by_cases hvu : v' = u
            · rw [hvu, po_usI_at, if_pos ⟨huc, by omega⟩]
              rfl
            · rw [po_usI_ne hvu, hU v' hv']
              by_cases h9 : rn_c A v' = k ∧ v' < u
              · rw [if_pos h9, if_pos ⟨h9.1, by omega⟩]
              · rw [if_neg h9, if_neg (fun h8 => h9 ⟨h8.1, by omega⟩)]
          · have er : (usI y2 38 u (vp_nar .boolean 1)).2.1 38 = upd (y2.2.1 38) u 1 := po_usI_row
            rw [er]
            have hle := zer_le (r := y2.2.1 38) (u := u) V
            refine ⟨by omega, fun h9 => ?_, fun h9 => ?_⟩
            · by_cases hum : u = mtf A v
              · have := zer_lt (r := y2.2.1 38) (u := u) (by rw [hum]; exact z3 (by omega)) V (by omega)
                omega
              · have := z2 (by omega)
                omega
            · rw [pk_un (by omega)]
              exact z3 (by omega)
      exact fill (rn_b A (k + 1) - rn_b A k) (rn_b A k) y (by omega) (Nat.le_refl _) hf hE.1 (fun v' hv' => by
        rw [if_neg]
        rintro ⟨h8, h9⟩
        have := (rn_c_in A v' hv').2.1
        rw [h8] at this
        omega) ⟨Nat.le_refl _, fun h9 => by omega, fun _ => hm0⟩
  have wh : ∀ (u : Nat) (y : ow_MS), zer (y.2.1 38) V ≤ u → fr (fun i => i = 38) z y → rEa3 y A c g h → Tt (fun K i => q_X13_isParted K i 4 (nI c) (nI g) (nI h) 1 0 0 0 1000 0 0 y) Q := by
    intro u
    induction u with
    | zero =>
      intro y hu hf hE
      refine u_X13_isParted_4 ?_; unfold qm_X13_isParted_4
      exact w_ifF (by decide) (pass 0 (fun y2 _ _ h9 => by omega) V 0 0 y (by omega) hf hE (Or.inl ⟨rfl, hu, fun v' hv' => by omega⟩))
    | succ u ih =>
      intro y hu hf hE
      refine u_X13_isParted_4 ?_; unfold qm_X13_isParted_4
      exact w_ifF (by decide) (pass (u + 1) (fun y2 f2 e2 h9 => ih y2 (by omega) f2 e2) V 0 0 y (by omega) hf hE (Or.inl ⟨rfl, hu, fun v' hv' => by omega⟩))
  have ini : ∀ (d v : Nat) (y : ow_MS), v + d = V → fr (fun i => i = 38) z y → (∀ v', v' < v → (y.2.1 38 v' = 0 ∨ y.2.1 38 v' = 1) ∧ (y.2.1 38 v' = 1 ↔ g < v' ∧ v' ≤ h)) → Tt (fun K i => q_X13_isParted K i 1 (nI c) (nI g) (nI h) (nI v) 0 0 0 1000 0 0 y) Q := by
    intro d
    induction d with
    | zero =>
      intro v y hv hf hr
      refine u_X13_isParted_1 ?_; unfold qm_X13_isParted_1
      exact w_rdF (oY hf).1.V (w_leT (by omega) (by omega) (wh _ y (Nat.le_refl _) hf ⟨⟨fun v' hv' => ⟨(hr v' (by omega)).1, fun _ => (hr v' (by omega)).2⟩, fun M hM v' hv' h1 => by
        have h2 := (hr v' (by omega)).2.mp h1
        exact hM.2.2 v' h2.1 h2.2⟩, fun a b ha hb e1 e2 => by
        have z9 : ∀ a, a < A.flatten.length → rn_c A a ≠ c → y.2.1 38 a = 0 := fun a ha hn => (hr a (by omega)).1.resolve_right (fun h1 => by
          have h2 := (hr a (by omega)).2.mp h1
          exact hn (rn_c_of A c a (by omega) (by omega)))
        rw [z9 a ha e2, z9 b hb (by rw [← e1]; exact e2)]⟩))
    | succ d ih =>
      intro v y hv hf hr
      have c3 : ∀ (b : Bool), (b = true ↔ g < v ∧ v ≤ h) → Tt (fun K i => q_X13_isParted K i 3 (nI c) (nI g) (nI h) (nI v) 0 0 0 1000 (bZ b) (nI v) y) Q := by
        intro b hb
        refine u_X13_isParted_3 ?_; unfold qm_X13_isParted_3
        rw [nI_1]
        refine w_wrZ ml38 rfl (by omega) (ih (v + 1) _ (by omega) (fr_I2 hf rfl) (fun v' hv' => ?_))
        by_cases hvv : v' = v
        · rw [hvv, po_usI_at]
          cases b with
          | true => exact ⟨Or.inr rfl, fun _ => hb.mp rfl, fun _ => rfl⟩
          | false => exact ⟨Or.inl rfl, fun h9 => absurd h9 (by decide), fun h9 => absurd (hb.mpr h9) (by decide)⟩
        · rw [po_usI_ne hvv]
          exact hr v' (by omega)
      have c2 : ¬ (g < v ∧ v ≤ h) → Tt (fun K i => q_X13_isParted K i 2 (nI c) (nI g) (nI h) (nI v) 0 0 0 1000 (nI v) 0 y) Q := by
        intro hno
        refine u_X13_isParted_2 ?_; unfold qm_X13_isParted_2
        exact c3 false ⟨fun h9 => absurd h9 (by decide), fun h9 => absurd h9 hno⟩
      refine u_X13_isParted_1 ?_; unfold qm_X13_isParted_1
      exact w_rdF (oY hf).1.V (w_leF (by omega) (by omega) (w_le (by omega) (by omega) (fun h9 => c2 (by omega)) (fun h9 => w_lt (by omega) (by omega) (fun h8 => c2 (by omega)) (fun h8 => c3 true ⟨fun _ => ⟨h9, h8⟩, fun _ => rfl⟩))))
  refine e_X13_isParted ?_
  refine u_X13_isParted_0 ?_; unfold qm_X13_isParted_0
  exact ini V 0 z (by omega) fr_rf (fun v' hv' => by omega)
end XSP
