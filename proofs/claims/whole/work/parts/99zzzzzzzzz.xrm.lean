/-! exact calls of the reference: drop, alike, mirror, change -/
section XM
variable {X : (Nat → Nat → Int32) → Prop} {z : ow_MS} {St : plT}
theorem relR_1 {c : Int32} (h : relR z St) : relR (usF z 1 c) St := relR_fr (P := fun g => g = 1) (fr_F rfl) (by decide) h
theorem fr_1 {c : Int32} : fr rPs z (usF z 1 c) := fr_mono (fun g hg => Or.inl hg) (fr_F (P := fun g => g = 1) rfl)
theorem xq_drop {x : Int32} (h : gI X z) (hR : relR z St) : Te (fun K => qe_X13_drop K x z) (fun r => gI X r.2 ∧ r.2.1 1 = 0 ∧ fr rPk z r.2 ∧ ((r.1 = 0 ∧ (∀ d, d < 40 → x = nI d → St d = none) ∧ relR r.2 St) ∨ r.1 = 1 ∧ ∃ d A sg, d < 40 ∧ x = nI d ∧ St d = some (A, sg) ∧ relR r.2 (upP St d none))) := by
  have h1 := gI_1 (c := 0) h
  have hR1 := relR_1 (c := 0) hR
  refine e_X13_drop ?_; unfold qm_X13_drop_0
  refine w_wrF (w_cs1 (xr_has hR1) (fun a z1 ⟨e, h9⟩ => ?_))
  have e : z1 = usF z 1 0 := e
  subst e
  have f1 : fr rPk z (usF z 1 0) := fr_mono (fun g hg => Or.inl hg) (fr_F (P := fun g => g = 1) rfl)
  rcases h9 with ⟨h9, h8⟩ | ⟨h9, d, A, sg, hd, rfl, hs⟩
  · have h9 : a = 0 := h9
    exact w_ifT h9 (w_okZ (Or.inl h9) (w_some ⟨h1, po_usF_at, f1, Or.inl ⟨h9, h8, hR1⟩⟩))
  · have h9 : a = 1 := h9
    rw [show (32 : Int32) * nI d = nI (32 * d) from pk_mul 32 d]
    refine w_ifF (by rw [h9]; decide) (w_wrI ml12 rfl (by omega) (w_okZ (Or.inr h9) (w_some ⟨?_, (show (usF z 1 0).1 1 = 0 from po_usF_at), fr_I2 f1 (Or.inr (Or.inl rfl)), Or.inr ⟨h9, d, A, sg, hd, rfl, hs, fun e he => ?_⟩⟩)))
    · exact gI_rows (P := fun g => g = 12) (fr_I rfl) (fun g hg => Or.inl hg) (gRows_put (d := d) (dRow_0 po_usI_at) (fun i hi => po_usI_ne (by omega)) h1.2.1) h1
    · by_cases ed : e = d
      · subst ed
        refine ⟨fun _ => po_usI_at, fun B sb h7 => ?_⟩
        rw [show upP St e none e = none from if_pos rfl] at h7
        cases h7
      · rw [show upP St d none e = St e from if_neg ed]
        obtain ⟨k1, k2⟩ := hR1 e he
        refine ⟨fun h7 => by rw [po_usI_ne (by omega)]; exact k1 h7, fun B sb h7 => ?_⟩
        obtain ⟨q1, ⟨q2, q3, q4, q5⟩, q6⟩ := k2 B sb h7
        refine ⟨q1, ⟨q2, q3, by rw [po_usI_ne (by omega)]; exact q4, fun k t hk => ?_⟩, q6⟩
        have := (List.getElem?_eq_some_iff.mp hk).1
        rw [po_usI_ne (by omega)]
        exact q5 k t hk
theorem xq_mirror {x : Int32} (h : gI X z) (hR : relR z St) : Te (fun K => qe_X13_mirror K x z) (fun r => rFl X z 1 r ∧ (∀ d, d < 40 → x = nI d → St d = none) ∨ ∃ d A sg, d < 40 ∧ x = nI d ∧ St d = some (A, sg) ∧ (rFl X z 2 r ∧ allF St ∨ ∃ e, lstF St e ∧ rKp X z e (A.map (List.map (flp (fun _ => true)))) (fun y => !sg y) r)) := by
  let Q : Int32 × ow_MS → Prop := fun r => rFl X z 1 r ∧ (∀ d, d < 40 → x = nI d → St d = none) ∨ ∃ d A sg, d < 40 ∧ x = nI d ∧ St d = some (A, sg) ∧ (rFl X z 2 r ∧ allF St ∨ ∃ e, lstF St e ∧ rKp X z e (A.map (List.map (flp (fun _ => true)))) (fun y => !sg y) r)
  have h1 := gI_1 (c := 0) h
  have hR1 := relR_1 (c := 0) hR
  refine e_X13_mirror ?_
  refine u_X13_mirror_0 ?_; unfold qm_X13_mirror_0
  refine w_wrF (w_hasX hR1 (fun h0 => w_ifT rfl (w_mono (w_failX h1 fr_1) (fun r hr => Or.inl ⟨hr, h0⟩))) (fun e A sg he hx hs hv hne => w_ifF (by decide) (w_freeX hR1 (fun h0 => w_ifT rfl (w_mono (w_failX (k := 2) h1 fr_1) (fun r hr => Or.inr ⟨e, A, sg, he, hx, hs, Or.inl ⟨hr, h0⟩⟩))) (fun f hfr => w_ifF (rn_neg1 (by have := hfr.1; omega)) ?_))))
  subst hx
  refine w_cs0 (to_open pn3 he hv) (fun z2 ⟨o1, f1⟩ => ?_)
  have h2 : gI X z2 := gI_net pn3 f1 (fun g hg => by omega) h1
  have hl := o1.len
  have fs : ∀ {y : ow_MS}, fr (fun g => 3001 ≤ g ∧ g ≤ 3011) (usF z 1 0) y → fr rPs z y := fun hf => fr_tr fr_1 (fr_mono (fun g hg => Or.inr (by unfold rSc; omega)) hf)
  have c2 : ∀ (k x : Nat) (z3 : ow_MS), x + k = 40 → fr (fun g => g = 3005 ∨ g = 3006) z2 z3 → (∀ v, v < A.flatten.length → z3.2.1 3005 v = nI (1 - uns A v)) → (∀ y, y < x → z3.2.1 3006 y = 0 - z2.2.1 3006 y) → (∀ y, x ≤ y → z3.2.1 3006 y = z2.2.1 3006 y) → Tt (fun K i => q_X13_mirror K i 2 (nI e) (nI x) z3) Q := by
    intro k
    induction k with
    | zero =>
      intro x z3 hx hf hu hs2 hs3
      have ff : fr (fun g => 3001 ≤ g ∧ g ≤ 3011) (usF z 1 0) z3 := fr_tr f1 (fr_mono (fun g hg => by omega) hf)
      have hA : rn_At z3 3000 (A.map (List.map (flp (fun _ => true)))) [] := At_map o1.1.1 (hf 3001 (by omega)).1 (hf 3002 (by omega)).1 (hf 3003 (by omega)).2.1 (fun v hv9 => ⟨by rw [(hf 3004 (by omega)).2.1, flp_1]; exact (lk_cu o1.1 hv9).1, by rw [flp_2]; exact hu v hv9⟩)
      refine u_X13_mirror_2 ?_; unfold qm_X13_mirror_2
      refine w_leT (a := 40) (by omega) (by omega) (w_mono (w_keepX (z0 := z) (sg2 := fun y => !sg y) (gI_net pn3 hf (fun g hg => by omega) h2) (relR_fr ff (by omega) hR1) hfr (by rw [(ff 1 (by omega)).1]; exact po_usF_at) (fs ff) hA (fun p hp => ?_) (by rw [fl_map2]; exact wkF_flp o1.wk) (by rw [fl_map2, List.length_map]; exact hl) (by rw [List.length_map]; exact o1.2.2.2)) (fun r hr => Or.inr ⟨e, A, sg, he, rfl, hs, Or.inr ⟨f, hfr, hr⟩⟩))
      rw [fl_map2] at hp
      obtain ⟨q, hq, e9⟩ := List.mem_map.mp hp
      rw [← e9, flp_1]
      have hq40 := (o1.wk.2 q hq).1
      show z3.2.1 3006 q.1 = if (!sg q.1) = true then -1 else 1
      rw [hs2 q.1 (by omega), show z2.2.1 3006 q.1 = _ from o1.2.1 q hq]
      cases sg q.1 <;> rfl
    | succ k ih =>
      intro x z3 hx hf hu hs2 hs3
      refine u_X13_mirror_2 ?_; unfold qm_X13_mirror_2
      refine w_leF (a := 40) (by omega) (by omega) (w_rdI (pl6 pn3) rfl (by omega) (hs3 x (by omega)) (w_wrI (pl6 pn3) rfl (by omega) ?_))
      rw [nI_1]
      refine ih (x + 1) _ (by omega) (fr_I2 hf (Or.inr rfl)) (fun v hv9 => rd_ot (by omega) (hu v hv9)) (fun y hy => ?_) (fun y hy => rd_ne (by omega) (hs3 y (by omega)))
      by_cases hyx : y = x
      · rw [hyx, po_usI_at]
      · exact rd_ne hyx (hs2 y (by omega))
  have c1 : ∀ (k v : Nat) (z3 : ow_MS), v + k = A.flatten.length → fr (fun g => g = 3005) z2 z3 → (∀ w, w < v → z3.2.1 3005 w = nI (1 - uns A w)) → (∀ w, v ≤ w → z3.2.1 3005 w = z2.2.1 3005 w) → Tt (fun K i => q_X13_mirror K i 1 (nI e) (nI v) z3) Q := by
    intro k
    induction k with
    | zero =>
      intro v z3 hv9 hf hu hu2
      refine u_X13_mirror_1 ?_; unfold qm_X13_mirror_1
      exact w_rdF (x := nI A.flatten.length) (by rw [(hf 3001 (by omega)).1]; exact o1.1.V) (w_leT (by omega) (by omega) (c2 40 0 z3 (by omega) (fr_mono (fun g hg => Or.inl hg) hf) (fun w hw => hu w (by omega)) (fun y hy => by omega) (fun y _ => by rw [(hf 3006 (by omega)).2.1])))
    | succ k ih =>
      intro v z3 hv9 hf hu hu2
      have hvl : v < A.flatten.length := by omega
      have hu9 := (o1.cx hvl).2.1
      refine u_X13_mirror_1 ?_; unfold qm_X13_mirror_1
      refine w_rdF (x := nI A.flatten.length) (by rw [(hf 3001 (by omega)).1]; exact o1.1.V) (w_leF (by omega) hvl (w_rdI (pl5 pn3) rfl (by omega) ((hu2 v (Nat.le_refl _)).trans (lk_cu o1.1 hvl).2) (w_wrI (pl5 pn3) rfl (by omega) ?_)))
      rw [nI_1, show (1 : Int32) - nI (uns A v) = nI (1 - uns A v) from pk_sub (a := 1) (by omega)]
      refine ih (v + 1) _ (by omega) (fr_I2 hf rfl) (fun w hw => ?_) (fun w hw => rd_ne (by omega) (hu2 w (by omega)))
      by_cases hwv : w = v
      · rw [hwv, po_usI_at]
      · exact rd_ne hwv (hu w (by omega))
  exact c1 _ 0 z2 (Nat.zero_add _) fr_rf (fun w hw => by omega) (fun w _ => rfl)
theorem xq_change {x' x : Int32} (h : gI X z) (hR : relR z St) : Te (fun K => qe_X13_change K x' x z) (fun r => rFl X z 1 r ∧ (∀ d, d < 40 → x' = nI d → St d = none) ∨ ∃ d A sg, d < 40 ∧ x' = nI d ∧ St d = some (A, sg) ∧ (rFl X z 1 r ∧ (∀ y, 2 * y < A.flatten.length → x ≠ nI y) ∨ ∃ y, 2 * y < A.flatten.length ∧ x = nI y ∧ (rFl X z 2 r ∧ allF St ∨ ∃ e, lstF St e ∧ rKp X z e (A.map (List.map (flp (fun k => decide (k = y))))) (fun k => if k = y then !sg k else sg k) r))) := by
  have h1 := gI_1 (c := 0) h
  have hR1 := relR_1 (c := 0) hR
  refine e_X13_change ?_
  refine u_X13_change_0 ?_; unfold qm_X13_change_0
  refine w_wrF (w_hasX hR1 (fun h0 => w_ifT rfl (w_mono (w_failX h1 fr_1) (fun r hr => Or.inl ⟨hr, h0⟩))) (fun e A sg he hx hs hv hne => w_ifF (by decide) ?_))
  subst hx
  refine w_cs0 (to_open pn3 he hv) (fun z2 ⟨o1, f1⟩ => ?_)
  have h2 : gI X z2 := gI_net pn3 f1 (fun g hg => by omega) h1
  have hl := o1.len
  have hev := okF_len (c := A.flatten.length / 2) (F := A.flatten) (by obtain ⟨c, k1, k2⟩ := o1.2.2.1; have := okF_len k1; rw [this, show 2 * c / 2 = c by omega]; exact k1)
  have fs : ∀ {y : ow_MS}, fr (fun g => 3001 ≤ g ∧ g ≤ 3011) (usF z 1 0) y → fr rPs z y := fun hf => fr_tr fr_1 (fr_mono (fun g hg => Or.inr (by unfold rSc; omega)) hf)
  have c1 : (∀ y, 2 * y < A.flatten.length → x ≠ nI y) → Tt (fun K k => q_X13_change K k 1 (nI e) x z2) (fun r => rFl X z 1 r ∧ (∀ d, d < 40 → nI e = nI d → St d = none) ∨ ∃ d A sg, d < 40 ∧ nI e = nI d ∧ St d = some (A, sg) ∧ (rFl X z 1 r ∧ (∀ y, 2 * y < A.flatten.length → x ≠ nI y) ∨ ∃ y, 2 * y < A.flatten.length ∧ x = nI y ∧ (rFl X z 2 r ∧ allF St ∨ ∃ e, lstF St e ∧ rKp X z e (A.map (List.map (flp (fun k => decide (k = y))))) (fun k => if k = y then !sg k else sg k) r))) := by
    intro hno
    refine u_X13_change_1 ?_; unfold qm_X13_change_1
    exact w_mono (w_failX (k := 1) h2 (fs f1)) (fun r hr => Or.inr ⟨e, A, sg, he, rfl, hs, Or.inl ⟨hr, hno⟩⟩)
  refine w_if (fun h9 => c1 (fun y hy e9 => ?_)) (fun h0 => w_rdF o1.1.V (w_nzI (by decide) ?_))
  · rw [e9] at h9
    exact absurd h9 (nI_pos (by omega))
  rw [show nI A.flatten.length / 2 = nI (A.flatten.length / 2) from pk_div (d := 2) (by omega) (by omega) (by omega)]
  refine w_if (fun h9 => ?_) (fun h9 => c1 (fun y hy e9 => ?_))
  rotate_left
  · rw [e9] at h9
    exact h9 ((nI_ltI (by omega) (by omega)).mpr (by omega))
  obtain ⟨y, hy31, rfl⟩ := nI_of h0
  have hy : y < A.flatten.length / 2 := (nI_ltI hy31 (by omega)).mp h9
  refine w_freeX (relR_fr f1 (by omega) hR1) (fun hall => w_ifT rfl (w_mono (w_failX (k := 2) h2 (fs f1)) (fun r hr => Or.inr ⟨e, A, sg, he, rfl, hs, Or.inr ⟨y, by omega, rfl, Or.inl ⟨hr, hall⟩⟩⟩))) (fun f hfr => w_ifF (rn_neg1 (by have := hfr.1; omega)) (w_cs0 (tp_changeIn pn3 (by omega) (by omega) (fun v hv9 => ?_) o1.1.1) (fun z3 ⟨g1, g2, g3, g4⟩ => ?_)))
  · have := o1.cx hv9
    exact ⟨this.2.1, by omega⟩
  · have ff : fr (fun g => 3001 ≤ g ∧ g ≤ 3011) (usF z 1 0) z3 := fr_tr f1 (fr_mono (fun g hg => by omega) g2)
    refine w_mono (w_keepX (z0 := z) (sg2 := fun k => if k = y then !sg k else sg k) (gI_net pn3 g2 (fun g hg => by omega) h2) (relR_fr ff (by omega) hR1) hfr (by rw [(ff 1 (by omega)).1]; exact po_usF_at) (fs ff) g1 (fun p hp => ?_) (by rw [fl_map2]; exact wkF_flp o1.wk) (by rw [fl_map2, List.length_map]; exact hl) (by rw [List.length_map]; exact o1.2.2.2)) (fun r hr => Or.inr ⟨e, A, sg, he, rfl, hs, Or.inr ⟨y, by omega, rfl, Or.inr ⟨f, hfr, hr⟩⟩⟩)
    rw [fl_map2] at hp
    obtain ⟨q, hq, e9⟩ := List.mem_map.mp hp
    rw [← e9, flp_1]
    have hs9 := o1.2.1 q hq
    show z3.2.1 3006 q.1 = if (if q.1 = y then !sg q.1 else sg q.1) = true then -1 else 1
    by_cases hqy : q.1 = y
    · rw [if_pos hqy]
      rw [hqy] at hs9 ⊢
      rw [show z3.2.1 3006 y = 0 - z2.2.1 3006 y from g3, show z2.2.1 3006 y = _ from hs9]
      cases sg y <;> rfl
    · rw [show z3.2.1 3006 q.1 = z2.2.1 3006 q.1 from g4 q.1 hqy, if_neg hqy]
      exact hs9
end XM
