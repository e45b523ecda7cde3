section
/-! 99zzzzzzzzz.xrm -/
/-! exact calls of the reference: drop, alike, mirror, change -/
section XM
variable {X : (Nat → Nat → Int32) → Prop} {z : ow_MS} {St : plT}
theorem relR_1 {c : Int32} (h : relR z St) : relR (usF z 1 c) St := relR_fr (P := fun g => g = 1) (fr_F rfl) (by decide) h
theorem fr_1 {c : Int32} : fr rPs z (usF z 1 c) := fr_mono (fun g hg => Or.inl hg) (fr_F (P := fun g => g = 1) rfl)
theorem xq_drop {x : Int32} (h : gI X z) (hR : relR z St) : Te (fun K => qe_X13_drop K x z) (fun r => gI X r.2 ∧ r.2.1 1 = 0 ∧ fr rPk z r.2 ∧ ((r.1 = 0 ∧ (∀ d, d < 40 → x = nI d → St d = none) ∧ relR r.2 St) ∨ r.1 = 1 ∧ ∃ d A sg, d < 40 ∧ x = nI d ∧ St d = some (A, sg) ∧ relR r.2 (upP St d none))) := by
  have h1 := gI_1 (c := 0) h
  have hR1 := relR_1 (c := 0) hR
  refine e_X13_drop ?_; unfold qm_X13_drop_0
  refine w_wrF (w_cs1 (xr_has hR1) (fun a z1 ⟨e, h9⟩ => ?_))
  have e : z1 = usF z 1 0 := e
  subst e
  have f1 : fr rPk z (usF z 1 0) := fr_mono (fun g hg => Or.inl hg) (fr_F (P := fun g => g = 1) rfl)
  rcases h9 with ⟨h9, h8⟩ | ⟨h9, d, A, sg, hd, rfl, hs⟩
  · have h9 : a = 0 := h9
    exact w_ifT h9 (w_okZ (Or.inl h9) (w_some ⟨h1, po_usF_at, f1, Or.inl ⟨h9, h8, hR1⟩⟩))
  · have h9 : a = 1 := h9
    rw [show (32 : Int32) * nI d = nI (32 * d) from pk_mul 32 d]
    refine w_ifF (by rw [h9]; decide) (w_wrI ml12 rfl (by omega) (w_okZ (Or.inr h9) (w_some ⟨?_, (show (usF z 1 0).1 1 = 0 from po_usF_at), fr_I2 f1 (Or.inr (Or.inl rfl)), Or.inr ⟨h9, d, A, sg, hd, rfl, hs, fun e he => ?_⟩⟩)))
    · exact gI_rows (P := fun g => g = 12) (fr_I rfl) (fun g hg => Or.inl hg) (gRows_put (d := d) (dRow_0 po_usI_at) (fun i hi => po_usI_ne (by omega)) h1.2.1) h1
    · by_cases ed : e = d
      · subst ed
        refine ⟨fun _ => po_usI_at, fun B sb h7 => ?_⟩
        rw [show upP St e none e = none from if_pos rfl] at h7
        cases h7
      · rw [show upP St d none e = St e from if_neg ed]
        obtain ⟨k1, k2⟩ := hR1 e he
        refine ⟨fun h7 => by rw [po_usI_ne (by omega)]; exact k1 h7, fun B sb h7 => ?_⟩
        obtain ⟨q1, ⟨q2, q3, q4, q5⟩, q6⟩ := k2 B sb h7
        refine ⟨q1, ⟨q2, q3, by rw [po_usI_ne (by omega)]; exact q4, fun k t hk => ?_⟩, q6⟩
        have := (List.getElem?_eq_some_iff.mp hk).1
        rw [po_usI_ne (by omega)]
        exact q5 k t hk
theorem xq_mirror {x : Int32} (h : gI X z) (hR : relR z St) : Te (fun K => qe_X13_mirror K x z) (fun r => rFl X z 1 r ∧ (∀ d, d < 40 → x = nI d → St d = none) ∨ ∃ d A sg, d < 40 ∧ x = nI d ∧ St d = some (A, sg) ∧ (rFl X z 2 r ∧ allF St ∨ ∃ e, lstF St e ∧ rKp X z e (A.map (List.map (flp (fun _ => true)))) (fun y => !sg y) r)) := by
  let Q : Int32 × ow_MS → Prop := fun r => rFl X z 1 r ∧ (∀ d, d < 40 → x = nI d → St d = none) ∨ ∃ d A sg, d < 40 ∧ x = nI d ∧ St d = some (A, sg) ∧ (rFl X z 2 r ∧ allF St ∨ ∃ e, lstF St e ∧ rKp X z e (A.map (List.map (flp (fun _ => true)))) (fun y => !sg y) r)
  have h1 := gI_1 (c := 0) h
  have hR1 := relR_1 (c := 0) hR
  refine e_X13_mirror ?_
  refine u_X13_mirror_0 ?_; unfold qm_X13_mirror_0
  refine w_wrF (w_hasX hR1 (fun h0 => w_ifT rfl (w_mono (w_failX h1 fr_1) (fun r hr => Or.inl ⟨hr, h0⟩))) (fun e A sg he hx hs hv hne => w_ifF (by decide) (w_freeX hR1 (fun h0 => w_ifT rfl (w_mono (w_failX (k := 2) h1 fr_1) (fun r hr => Or.inr ⟨e, A, sg, he, hx, hs, Or.inl ⟨hr, h0⟩⟩))) (fun f hfr => w_ifF (rn_neg1 (by have := hfr.1; omega)) ?_))))
  subst hx
  refine w_cs0 (to_open pn3 he hv) (fun z2 ⟨o1, f1⟩ => ?_)
  have h2 : gI X z2 := gI_net pn3 f1 (fun g hg => by omega) h1
  have hl := o1.len
  have fs : ∀ {y : ow_MS}, fr (fun g => 3001 ≤ g ∧ g ≤ 3011) (usF z 1 0) y → fr rPs z y := fun hf => fr_tr fr_1 (fr_mono (fun g hg => Or.inr (by unfold rSc; omega)) hf)
  have c2 : ∀ (k x : Nat) (z3 : ow_MS), x + k = 40 → fr (fun g => g = 3005 ∨ g = 3006) z2 z3 → (∀ v, v < A.flatten.length → z3.2.1 3005 v = nI (1 - uns A v)) → (∀ y, y < x → z3.2.1 3006 y = 0 - z2.2.1 3006 y) → (∀ y, x ≤ y → z3.2.1 3006 y = z2.2.1 3006 y) → Tt (fun K i => q_X13_mirror K i 2 (nI e) (nI x) z3) Q := by
    intro k
    induction k with
    | zero =>
      intro x z3 hx hf hu hs2 hs3
      have ff : fr (fun g => 3001 ≤ g ∧ g ≤ 3011) (usF z 1 0) z3 := fr_tr f1 (fr_mono (fun g hg => by omega) hf)
      have hA : rn_At z3 3000 (A.map (List.map (flp (fun _ => true)))) [] := At_map o1.1.1 (hf 3001 (by omega)).1 (hf 3002 (by omega)).1 (hf 3003 (by omega)).2.1 (fun v hv9 => ⟨by rw [(hf 3004 (by omega)).2.1, flp_1]; exact (lk_cu o1.1 hv9).1, by rw [flp_2]; exact hu v hv9⟩)
      refine u_X13_mirror_2 ?_; unfold qm_X13_mirror_2
      refine w_leT (a := 40) (by omega) (by omega) (w_mono (w_keepX (z0 := z) (sg2 := fun y => !sg y) (gI_net pn3 hf (fun g hg => by omega) h2) (relR_fr ff (by omega) hR1) hfr (by rw [(ff 1 (by omega)).1]; exact po_usF_at) (fs ff) hA (fun p hp => ?_) (by rw [fl_map2]; exact wkF_flp o1.wk) (by rw [fl_map2, List.length_map]; exact hl) (by rw [List.length_map]; exact o1.2.2.2)) (fun r hr => Or.inr ⟨e, A, sg, he, rfl, hs, Or.inr ⟨f, hfr, hr⟩⟩))
      rw [fl_map2] at hp
      obtain ⟨q, hq, e9⟩ := List.mem_map.mp hp
      rw [← e9, flp_1]
      have hq40 := (o1.wk.2 q hq).1
      show z3.2.1 3006 q.1 = if (!sg q.1) = true then -1 else 1
      rw [hs2 q.1 (by omega), show z2.2.1 3006 q.1 = _ from o1.2.1 q hq]
      cases sg q.1 <;> rfl
    | succ k ih =>
      intro x z3 hx hf hu hs2 hs3
      refine u_X13_mirror_2 ?_; unfold qm_X13_mirror_2
      refine w_leF (a := 40) (by omega) (by omega) (w_rdI (pl6 pn3) rfl (by omega) (hs3 x (by omega)) (w_wrI (pl6 pn3) rfl (by omega) ?_))
      rw [nI_1]
      refine ih (x + 1) _ (by omega) (fr_I2 hf (Or.inr rfl)) (fun v hv9 => rd_ot (by omega) (hu v hv9)) (fun y hy => ?_) (fun y hy => rd_ne (by omega) (hs3 y (by omega)))
      by_cases hyx : y = x
      · rw [hyx, po_usI_at]
      · exact rd_ne hyx (hs2 y (by omega))
  have c1 : ∀ (k v : Nat) (z3 : ow_MS), v + k = A.flatten.length → fr (fun g => g = 3005) z2 z3 → (∀ w, w < v → z3.2.1 3005 w = nI (1 - uns A w)) → (∀ w, v ≤ w → z3.2.1 3005 w = z2.2.1 3005 w) → Tt (fun K i => q_X13_mirror K i 1 (nI e) (nI v) z3) Q := by
    intro k
    induction k with
    | zero =>
      intro v z3 hv9 hf hu hu2
      refine u_X13_mirror_1 ?_; unfold qm_X13_mirror_1
      exact w_rdF (x := nI A.flatten.length) (by rw [(hf 3001 (by omega)).1]; exact o1.1.V) (w_leT (by omega) (by omega) (c2 40 0 z3 (by omega) (fr_mono (fun g hg => Or.inl hg) hf) (fun w hw => hu w (by omega)) (fun y hy => by omega) (fun y _ => by rw [(hf 3006 (by omega)).2.1])))
    | succ k ih =>
      intro v z3 hv9 hf hu hu2
      have hvl : v < A.flatten.length := by omega
      have hu9 := (o1.cx hvl).2.1
      refine u_X13_mirror_1 ?_; unfold qm_X13_mirror_1
      refine w_rdF (x := nI A.flatten.length) (by rw [(hf 3001 (by omega)).1]; exact o1.1.V) (w_leF (by omega) hvl (w_rdI (pl5 pn3) rfl (by omega) ((hu2 v (Nat.le_refl _)).trans (lk_cu o1.1 hvl).2) (w_wrI (pl5 pn3) rfl (by omega) ?_)))
      rw [nI_1, show (1 : Int32) - nI (uns A v) = nI (1 - uns A v) from pk_sub (a := 1) (by omega)]
      refine ih (v + 1) _ (by omega) (fr_I2 hf rfl) (fun w hw => ?_) (fun w hw => rd_ne (by omega) (hu2 w (by omega)))
      by_cases hwv : w = v
      · rw [hwv, po_usI_at]
      · exact rd_ne hwv (hu w (by omega))
  exact c1 _ 0 z2 (Nat.zero_add _) fr_rf (fun w hw => by omega) (fun w _ => rfl)
theorem xq_change {x' x : Int32} (h : gI X z) (hR : relR z St) : Te (fun K => qe_X13_change K x' x z) (fun r => rFl X z 1 r ∧ (∀ d, d < 40 → x' = nI d → St d = none) ∨ ∃ d A sg, d < 40 ∧ x' = nI d ∧ St d = some (A, sg) ∧ (rFl X z 1 r ∧ (∀ y, 2 * y < A.flatten.length → x ≠ nI y) ∨ ∃ y, 2 * y < A.flatten.length ∧ x = nI y ∧ (rFl X z 2 r ∧ allF St ∨ ∃ e, lstF St e ∧ rKp X z e (A.map (List.map (flp (fun k => decide (k = y))))) (fun k => if k = y then !sg k else sg k) r))) := by
  have h1 := gI_1 (c := 0) h
  have hR1 := relR_1 (c := 0) hR
  refine e_X13_change ?_
  refine u_X13_change_0 ?_; unfold qm_X13_change_0
  refine w_wrF (w_hasX hR1 (fun h0 => w_ifT rfl (w_mono (w_failX h1 fr_1) (fun r hr => Or.inl ⟨hr, h0⟩))) (fun e A sg he hx hs hv hne => w_ifF (by decide) ?_))
  subst hx
  refine w_cs0 (to_open pn3 he hv) (fun z2 ⟨o1, f1⟩ => ?_)
  have h2 : gI X z2 := gI_net pn3 f1 (fun g hg => by omega) h1
  have hl := o1.len
  have hev := okF_len (c := A.flatten.length / 2) (F := A.flatten) (by obtain ⟨c, k1, k2⟩ := o1.2.2.1; have := okF_len k1; rw [this, show 2 * c / 2 = c by omega]; exact k1)
  have fs : ∀ {y : ow_MS}, fr (fun g => 3001 ≤ g ∧ g ≤ 3011) (usF z 1 0) y → fr rPs z y := fun hf => fr_tr fr_1 (fr_mono (fun g hg => Or.inr (by unfold rSc; omega)) hf)
  have c1 : (∀ y, 2 * y < A.flatten.length → x ≠ nI y) → Tt (fun K k => q_X13_change K k 1 (nI e) x z2) (fun r => rFl X z 1 r ∧ (∀ d, d < 40 → nI e = nI d → St d = none) ∨ ∃ d A sg, d < 40 ∧ nI e = nI d ∧ St d = some (A, sg) ∧ (rFl X z 1 r ∧ (∀ y, 2 * y < A.flatten.length → x ≠ nI y) ∨ ∃ y, 2 * y < A.flatten.length ∧ x = nI y ∧ (rFl X z 2 r ∧ allF St ∨ ∃ e, lstF St e ∧ rKp X z e (A.map (List.map (flp (fun k => decide (k = y))))) (fun k => if k = y then !sg k else sg k) r))) := by
    intro hno
    refine u_X13_change_1 ?_; unfold qm_X13_change_1
    exact w_mono (w_failX (k := 1) h2 (fs f1)) (fun r hr => Or.inr ⟨e, A, sg, he, rfl, hs, Or.inl ⟨hr, hno⟩⟩)
  refine w_if (fun h9 => c1 (fun y hy e9 => ?_)) (fun h0 => w_rdF o1.1.V (w_nzI (by decide) ?_))
  · rw [e9] at h9
    exact absurd h9 (nI_pos (by omega))
  rw [show nI A.flatten.length / 2 = nI (A.flatten.length / 2) from pk_div (d := 2) (by omega) (by omega) (by omega)]
  refine w_if (fun h9 => ?_) (fun h9 => c1 (fun y hy e9 => ?_))
  rotate_left
  · rw [e9] at h9
    exact h9 ((nI_ltI (by omega) (by omega)).mpr (by omega))
  obtain ⟨y, hy31, rfl⟩ := nI_of h0
  have hy : y < A.flatten.length / 2 := (nI_ltI hy31 (by omega)).mp h9
  refine w_freeX (relR_fr f1 (by omega) hR1) (fun hall => w_ifT rfl (w_mono (w_failX (k := 2) h2 (fs f1)) (fun r hr => Or.inr ⟨e, A, sg, he, rfl, hs, Or.inr ⟨y, by omega, rfl, Or.inl ⟨hr, hall⟩⟩⟩))) (fun f hfr => w_ifF (rn_neg1 (by have := hfr.1; omega)) (w_cs0 (tp_changeIn pn3 (by omega) (by omega) (fun v hv9 => ?_) o1.1.1) (fun z3 ⟨g1, g2, g3, g4⟩ => ?_)))
  · have := o1.cx hv9
    exact ⟨this.2.1, by omega⟩
  · have ff : fr (fun g => 3001 ≤ g ∧ g ≤ 3011) (usF z 1 0) z3 := fr_tr f1 (fr_mono (fun g hg => by omega) g2)
    refine w_mono (w_keepX (z0 := z) (sg2 := fun k => if k = y then !sg k else sg k) (gI_net pn3 g2 (fun g hg => by omega) h2) (relR_fr ff (by omega) hR1) hfr (by rw [(ff 1 (by omega)).1]; exact po_usF_at) (fs ff) g1 (fun p hp => ?_) (by rw [fl_map2]; exact wkF_flp o1.wk) (by rw [fl_map2, List.length_map]; exact hl) (by rw [List.length_map]; exact o1.2.2.2)) (fun r hr => Or.inr ⟨e, A, sg, he, rfl, hs, Or.inr ⟨y, by omega, rfl, Or.inr ⟨f, hfr, hr⟩⟩⟩)
    rw [fl_map2] at hp
    obtain ⟨q, hq, e9⟩ := List.mem_map.mp hp
    rw [← e9, flp_1]
    have hs9 := o1.2.1 q hq
    show z3.2.1 3006 q.1 = if (if q.1 = y then !sg q.1 else sg q.1) = true then -1 else 1
    by_cases hqy : q.1 = y
    · rw [if_pos hqy]
      rw [hqy] at hs9 ⊢
      rw [show z3.2.1 3006 y = 0 - z2.2.1 3006 y from g3, show z2.2.1 3006 y = _ from hs9]
      cases sg y <;> rfl
    · rw [show z3.2.1 3006 q.1 = z2.2.1 3006 q.1 from g4 q.1 hqy, if_neg hqy]
      exact hs9
end XM
end
section
/-! 99zzzzzzzzza.xcls -/
/-! exact calls of the class: the places as a table of lists; mirror, change -/
def relC (y : ow_MS) (St : plT) : Prop := ∀ d, d < 40 → (St d = none → y.2.1 1002 d = 0) ∧ ∀ A sg, St d = some (A, sg) → slC y 1000 d (clC sg A)
def okS (St : plT) : Prop := ∀ d A sg, d < 40 → St d = some (A, sg) → A ≠ [] ∧ plnA A sg ∧ ∃ c, okL A c
/-- a diagram was made of a net that shows A2 -/
def cKp (y : ow_MS) (e : Nat) (A2 : rn_L) (sg2 : Nat → Bool) (r : Int32 × ow_MS) : Prop := r.1 = nI e ∧ gN r.2 ∧ fr uP y r.2 ∧ (∃ T f Cs os, nv T ∧ pm1 T ∧ isoV A2 sg2 f T ∧ nt_plane T = true ∧ cpZ T (np_parts T.1 T.2.2.1.1).2 Cs os ∧ slC r.2 1000 e (enC T Cs os)) ∧ ∀ d C, d ≠ e → cOK C → slC y 1000 d C → slC r.2 1000 d C
section XC
variable {vl : Nat → Nat} {y : ow_MS} {St : plT} {x : Int32}
theorem relC_len (hC : relC y St) (hS : okS St) {d : Nat} (hd : d < 40) : y.2.1 1002 d = 0 ↔ St d = none := by
  obtain ⟨h1, h2⟩ := hC d hd
  cases e : St d with
  | none => exact ⟨fun _ => rfl, fun _ => h1 e⟩
  | some C =>
    obtain ⟨A, sg⟩ := C
    obtain ⟨k1, k2, c, k3⟩ := hS d A sg hd e
    have hs := (h2 A sg e).2.1
    have hl : 0 < (clC sg A).2.length := by
      show 0 < (ucd sg 0 [] A).length
      rw [ucd_len]
      have := List.length_pos_iff.mpr k1
      omega
    have h30 := (okL_c (sg := sg) k3).2.2.1
    refine ⟨fun h9 => ?_, fun h9 => by cases h9⟩
    have hs : y.2.1 1002 d = nI (clC sg A).2.length := hs
    rw [hs] at h9
    have := nI_inj9 (a := (clC sg A).2.length) (b := 0) (by omega) (by omega) h9
    omega
theorem xc_need (hN : dgC y) (hC : relC y St) (hS : okS St) : Te (fun K => ce_X11_needDiagram vl K 0 x y) (fun r => (r.1 = 1 ∧ (∀ d, d < 40 → x = nI d → St d = none) ∨ r.1 = 0 ∧ ∃ d A sg c, d < 40 ∧ x = nI d ∧ St d = some (A, sg) ∧ slC y 1000 d (clC sg A) ∧ okL A c ∧ A ≠ [] ∧ plnA A sg) ∧ r.2 = y) := by
  refine w_monoE (tc_need hN) ?_
  rintro r ⟨h1 | h1, h2⟩
  · refine ⟨Or.inr ⟨h1.1, ?_⟩, h2⟩
    obtain ⟨d, A, sg, c, hd, hx, hs, hA, hne⟩ := h1.2
    cases e : St d with
    | none =>
      exfalso
      have h9 := (hC d hd).1 e
      have hl : 0 < (clC sg A).2.length := by
        show 0 < (ucd sg 0 [] A).length
        rw [ucd_len]
        have := List.length_pos_iff.mpr hne
        omega
      have h30 := (okL_c (sg := sg) hA).2.2.1
      have hs2 : y.2.1 1002 d = nI (clC sg A).2.length := hs.2.1
      rw [hs2] at h9
      have := nI_inj9 (a := (clC sg A).2.length) (b := 0) (by omega) (by omega) h9
      omega
    | some C =>
      obtain ⟨k1, k2, c', k3⟩ := hS d C.1 C.2 hd e
      exact ⟨d, C.1, C.2, c', hd, hx, e, (hC d hd).2 C.1 C.2 e, k3, k1, k2⟩
  · exact ⟨Or.inl ⟨h1.1, fun d hd hx => (relC_len hC hS hd).mp (h1.2 d hd hx)⟩, h2⟩
theorem xc_free (hN : dgC y) (hC : relC y St) (hS : okS St) : Te (fun K => ce_X11_freeDiagram vl K 0 y) (fun r => (r.1 = 3 ∧ allF St ∨ r.1 = 0 ∧ ∃ e, r.2.1 = nI e ∧ lstF St e) ∧ r.2.2 = y) := by
  refine w_monoE (tc_freeDiagram (dgC_E hN)) ?_
  rintro r ⟨⟨d, hd, h1, h2, h3, h4⟩ | ⟨h1, h2⟩, h5⟩
  · exact ⟨Or.inr ⟨h1, d, h2, hd, (relC_len hC hS hd).mp h3, fun e he e9 => h4 e he ((relC_len hC hS (by omega)).mpr e9)⟩, h5⟩
  · exact ⟨Or.inl ⟨h1, fun d hd e9 => h2 d hd ((relC_len hC hS hd).mpr e9)⟩, h5⟩
theorem isoV_sg {A : rn_L} {sg sg' : Nat → Bool} {f : Nat → Nat} {T : ow_NT} (h : isoV A sg f T) (hs : ∀ p, p ∈ A.flatten → sg' p.1 = sg p.1) : isoV A sg' f T := ⟨⟨h.1.1, h.1.2.1, h.1.2.2.1, h.1.2.2.2.1, h.1.2.2.2.2.1, h.1.2.2.2.2.2.1, fun p hp => by rw [hs p hp]; exact h.1.2.2.2.2.2.2.1 p hp, h.1.2.2.2.2.2.2.2⟩, h.2⟩
theorem jn_pm1 {A : rn_L} {sg : Nat → Bool} {c : Nat} {S : ow_NP} {G : Nat → Int32} (h : jnN A sg c S G) : pm1 (c, cirs A, S, G) := fun x hx => by
  have h7 : G x = if sg x then -1 else 1 := h.2.2.2 x hx
  show G x = 1 ∨ G x = -1
  rw [h7]
  split
  · exact Or.inr rfl
  · exact Or.inl rfl
theorem flp_s {A : rn_L} {a : Nat → Bool} {x : Nat} (ha : a x = false) : (A.map (List.map (flp a))).map (List.map (flp (fun y => decide (y = x)))) = A.map (List.map (flp (fun y => a y || decide (y = x)))) := by
  rw [List.map_map]
  refine List.map_congr_left (fun L _ => ?_)
  show (L.map (flp a)).map (flp _) = _
  rw [List.map_map]
  refine List.map_congr_left (fun p _ => ?_)
  show flp (fun y => decide (y = x)) (flp a p) = flp (fun y => a y || decide (y = x)) p
  unfold flp
  by_cases e : p.1 = x
  · rw [e, ha]
    simp [e]
  · cases h : a p.1 <;> simp [h, e]
/-- the net of place d comes to the net 4000 -/
theorem xc_ld {d c : Nat} {A : rn_L} {sg : Nat → Bool} (hN : gN y) (hd : d < 40) (hs : slC y 1000 d (clC sg A)) (hA : okL A c) (hp : plnA A sg) : Te (fun K => ce_X7_load vl K 4000 1000 (nI d) y) (fun y1 => gN y1 ∧ fr (cL 4000) y y1 ∧ ∃ T, shA y1 4000 A sg T ∧ T.1 = c ∧ isoV A sg (fun x => x) T ∧ pm1 T ∧ nt_plane T = true) := by
  refine w_monoE (tc_ld3 nH4 hN hd hs hA) ?_
  rintro y2 ⟨g1, g2, S, G, g3, g4⟩
  have hV : isoV A sg (fun x => x) (c, cirs A, S, G) := isoV_of g4.2.1 g4.2.2.1
  exact ⟨g1, g2, _, g3, rfl, hV, jn_pm1 g4, hp _ _ hV (jn_pm1 g4)⟩
theorem relC_fr {P : Nat → Prop} {y1 : ow_MS} (hf : fr P y y1) (hP : ∀ q, cW 1000 q → ¬ P q) (hC : relC y St) : relC y1 St := fun d hd => ⟨fun e => by
  rw [(hf 1002 (hP 1002 (by unfold cW; omega))).2.1]
  exact (hC d hd).1 e, fun A sg e => slC_fr hf hP ((hC d hd).2 A sg e)⟩
theorem xc_change {x' : Int32} (hN : gN y) (hC : relC y St) (hS : okS St) : Te (fun K => ce_X11_change vl K 0 x x' y) (fun r => r.1 = 1 ∧ gN r.2.2 ∧ fr uP y r.2.2 ∧ relC r.2.2 St ∧ (∀ d, d < 40 → x = nI d → St d = none) ∨ ∃ d A sg, d < 40 ∧ x = nI d ∧ St d = some (A, sg) ∧ (r.1 = 1 ∧ gN r.2.2 ∧ fr uP y r.2.2 ∧ relC r.2.2 St ∧ (∀ k, 2 * k < A.flatten.length → x' ≠ nI k) ∨ ∃ k, 2 * k < A.flatten.length ∧ x' = nI k ∧ (r.1 = 3 ∧ gN r.2.2 ∧ fr uP y r.2.2 ∧ relC r.2.2 St ∧ allF St ∨ r.1 = 0 ∧ ∃ e, lstF St e ∧ cKp y e (A.map (List.map (flp (fun j => decide (j = k))))) (fun j => if j = k then !sg j else sg j) r.2))) := by
  refine e_X11_change ?_; unfold cm_X11_change_0
  refine w_tc0 (xc_need hN.1 hC hS) ?_ ?_
  · rintro y1 ⟨h1, rfl⟩
    rcases h1 with h1 | ⟨-, d, A, sg, c, hd, rfl, hSt, hs, hA, hne, hpl⟩
    · exact absurd (show (0 : Nat) = 1 from h1.1) (by decide)
    · refine w_cs0 (xc_ld hN hd hs hA hpl) ?_
      rintro y3 ⟨hN3, f3, T, hT, hT1, hV, hpm, hTp⟩
      have f3u : fr uP y1 y3 := fr_mono (fun g hg => by unfold cL at hg; unfold uP; omega) f3
      have hC3 : relC y3 St := relC_fr f3 (fun q hq h9 => by unfold cW at hq; unfold cL at h9; omega) hC
      have hv := hT.2.2.1
      have hlen := hV.1.2.1
      refine w_tc0 (tc_needCrossing hT.1.1 hv.2.1) ?_ ?_
      · rintro y4 ⟨h4, rfl⟩
        rcases h4 with ⟨-, i, hi, rfl⟩ | h4
        · refine w_tc1 (xc_free hN3.1 hC3 hS) ?_ ?_
          · rintro v y5 ⟨h5, rfl⟩
            rcases h5 with h5 | ⟨-, e, rfl, hl⟩
            · exact absurd (show (0 : Nat) = 3 from h5.1) (by decide)
            · have h12 := hv.2.1
              refine w_cs0 (tc_flipCrossing nH4 hT.1 hv.2.2.1 (show i < 12 by omega)) ?_
              rintro y6 ⟨g1, g2⟩
              have hv5 := nv_flip (G := su T.2.2.2 i (- T.2.2.2 i)) hv hi
              refine w_cs1 (tc_keep (gN_net nH4 g2 (fun g hg => by unfold cP at hg; omega) ⟨_, g1, hv5.2.2.1⟩ hN3) hl.1 g1 hv5) ?_
              rintro r y7 ⟨q0, q1, q2, ⟨Cs, os, q3, q4⟩, q5, -⟩
              refine w_some (Or.inr ⟨d, A, sg, hd, rfl, hSt, Or.inr ⟨i, by omega, rfl, Or.inr ⟨rfl, e, hl, q0, q1, fr_tr f3u (fr_tr (fr_mono (fun g hg => by unfold cP at hg; unfold uP; omega) g2) q2), ⟨ntF T i, fun x => x, Cs, os, hv5, pm1_F hpm, iso_flip hV hpm hi, (pl_flip hv.1 hv.2.1 hpm hi).mp hTp, q3, q4⟩, fun d' C' h1 h2 h3 => q5 d' C' h1 h2 (slC_fr g2 (fun q hq h9 => by unfold cW at hq; unfold cP at h9; omega) (slC_fr f3 (fun q hq h9 => by unfold cW at hq; unfold cL at h9; omega) h3))⟩⟩⟩)
          · rintro a v y5 ha ⟨h5, rfl⟩
            rcases h5 with h5 | h5
            · exact w_some (Or.inr ⟨d, A, sg, hd, rfl, hSt, Or.inr ⟨i, by omega, rfl, Or.inl ⟨h5.1, hN3, f3u, hC3, h5.2⟩⟩⟩)
            · exact absurd h5.1 ha
        · exact absurd (show (0 : Nat) = 1 from h4.1) (by decide)
      · rintro a y4 ha ⟨h4, rfl⟩
        rcases h4 with h4 | h4
        · exact absurd h4.1 ha
        · exact w_some (Or.inr ⟨d, A, sg, hd, rfl, hSt, Or.inl ⟨h4.1, hN3, f3u, hC3, fun k hk => h4.2 k (by omega)⟩⟩)
  · rintro a y1 ha ⟨h1, rfl⟩
    rcases h1 with h1 | h1
    · exact w_some (Or.inl ⟨h1.1, hN, fr_rf, hC, h1.2⟩)
    · exact absurd h1.1 ha
theorem xc_mirror (hN : gN y) (hC : relC y St) (hS : okS St) : Te (fun K => ce_X11_mirror vl K 0 x y) (fun r => r.1 = 1 ∧ gN r.2.2 ∧ fr uP y r.2.2 ∧ relC r.2.2 St ∧ (∀ d, d < 40 → x = nI d → St d = none) ∨ ∃ d A sg, d < 40 ∧ x = nI d ∧ St d = some (A, sg) ∧ (r.1 = 3 ∧ gN r.2.2 ∧ fr uP y r.2.2 ∧ relC r.2.2 St ∧ allF St ∨ r.1 = 0 ∧ ∃ e, lstF St e ∧ cKp y e (A.map (List.map (flp (fun _ => true)))) (fun j => !sg j) r.2)) := by
  let Q : Nat × Int32 × ow_MS → Prop := fun r => r.1 = 1 ∧ gN r.2.2 ∧ fr uP y r.2.2 ∧ relC r.2.2 St ∧ (∀ d, d < 40 → x = nI d → St d = none) ∨ ∃ d A sg, d < 40 ∧ x = nI d ∧ St d = some (A, sg) ∧ (r.1 = 3 ∧ gN r.2.2 ∧ fr uP y r.2.2 ∧ relC r.2.2 St ∧ allF St ∨ r.1 = 0 ∧ ∃ e, lstF St e ∧ cKp y e (A.map (List.map (flp (fun _ => true)))) (fun j => !sg j) r.2)
  refine e_X11_mirror ?_
  refine u_X11_mirror_0 ?_; unfold cm_X11_mirror_0
  refine w_tc0 (xc_need hN.1 hC hS) ?_ ?_
  · rintro y1 ⟨h1, e0⟩
    have e0 : y1 = y := e0
    subst e0
    rcases h1 with h1 | ⟨-, d, A, sg, c, hd, rfl, hSt, hs, hA, hne, hpl⟩
    · exact absurd (show (0 : Nat) = 1 from h1.1) (by decide)
    · refine w_tc1 (xc_free hN.1 hC hS) ?_ ?_
      · rintro v y2 ⟨h2, e0⟩
        have e0 : y2 = y1 := e0
        subst e0
        rcases h2 with h2 | ⟨-, e, rfl, hl⟩
        · exact absurd (show (0 : Nat) = 3 from h2.1) (by decide)
        · refine w_cs0 (xc_ld hN hd hs hA hpl) ?_
          rintro y3 ⟨hN3, f3, T, hT, hT1, hV, hpm, hTp⟩
          have f3u : fr uP y2 y3 := fr_mono (fun g hg => by unfold cL at hg; unfold uP; omega) f3
          have c1 : ∀ (k i : Nat) (y4 : ow_MS) (T4 : ow_NT), i + k = c → T4.1 = c → cAt y4 4000 T4 → nv T4 → gN y4 → fr uP y2 y4 → (∀ d C, slC y2 1000 d C → slC y4 1000 d C) → pm1 T4 → isoV (A.map (List.map (flp (fun j => decide (j < i))))) (fun j => if j < i then !sg j else sg j) (fun x => x) T4 → nt_plane T4 = true → Tt (fun K t => c_X11_mirror vl K t 1 (nI d) (nI e) (nI i) 0 y4) Q := by
            intro k
            induction k with
            | zero =>
              intro i y4 T4 hi hT4 hc4 hv4 hN4 f4 hsl hpm4 hV4 hp4
              have h12 := hv4.2.1
              refine u_X11_mirror_1 ?_; unfold cm_X11_mirror_1
              refine w_rdF hc4.1 (w_leT (by omega) (by omega) (w_cs1 (tc_keep hN4 hl.1 hc4 hv4) ?_))
              rintro r y5 ⟨q0, g1, g2, ⟨Cs, os, q3, q4⟩, q5, -⟩
              have eA : A.map (List.map (flp (fun j => decide (j < i)))) = A.map (List.map (flp (fun _ => true))) := List.map_congr_left (fun L hL => List.map_congr_left (fun p hp => by
                have : p.1 < c := ((hA.1.2 p).mp (List.mem_flatten.mpr ⟨L, hL, hp⟩)).1
                show (if decide (p.1 < i) = true then (p.1, 1 - p.2) else p) = (p.1, 1 - p.2)
                rw [decide_eq_true (show p.1 < i by omega)]
                rfl))
              have hV5 : isoV (A.map (List.map (flp (fun _ => true)))) (fun j => !sg j) (fun x => x) T4 := by
                rw [eA] at hV4
                refine isoV_sg hV4 (fun p hp => ?_)
                have : p.1 < T4.1 := hV4.1.2.2.2.1 p hp
                show (!sg p.1) = if p.1 < i then !sg p.1 else sg p.1
                rw [if_pos (by omega)]
              exact w_some (Or.inr ⟨d, A, sg, hd, rfl, hSt, Or.inr ⟨rfl, e, hl, q0, g1, fr_tr f4 g2, ⟨T4, _, Cs, os, hv4, hpm4, hV5, hp4, q3, q4⟩, fun d' C' h1 h2 h3 => q5 d' C' h1 h2 (hsl d' C' h3)⟩⟩)
            | succ k ih =>
              intro i y4 T4 hi hT4 hc4 hv4 hN4 f4 hsl hpm4 hV4 hp4
              have h12 := hv4.2.1
              refine u_X11_mirror_1 ?_; unfold cm_X11_mirror_1
              refine w_rdF hc4.1 (w_leF (by omega) (by omega) (w_cs0 (tc_flipCrossing nH4 hc4 hv4.2.2.1 (show i < 12 by omega)) ?_))
              rintro y5 ⟨g1, g2⟩
              rw [nI_1]
              have hiT : i < T4.1 := by omega
              have hv5 := nv_flip (G := su T4.2.2.2 i (- T4.2.2.2 i)) hv4 hiT
              have hV6 := iso_flip hV4 hpm4 hiT
              rw [flp_s (decide_eq_false (Nat.lt_irrefl i))] at hV6
              have eb : (fun j => decide (j < i) || decide (j = i)) = fun j => decide (j < i + 1) := funext (fun j => by
                by_cases h9 : j < i
                · rw [decide_eq_true h9, decide_eq_true (show j < i + 1 by omega)]
                  rfl
                · rw [decide_eq_false h9, Bool.false_or]
                  exact decide_eq_decide.mpr (by omega))
              rw [eb] at hV6
              refine ih (i + 1) y5 (ntF T4 i) (by omega) hT4 g1 hv5 (gN_net nH4 g2 (fun g hg => by unfold cP at hg; omega) ⟨_, g1, hv5.2.2.1⟩ hN4) (fr_tr f4 (fr_mono (fun g hg => by unfold cP at hg; unfold uP; omega) g2)) (fun d' C' h3 => slC_fr g2 (fun q hq h9 => by unfold cW at hq; unfold cP at h9; omega) (hsl d' C' h3)) (pm1_F hpm4) (isoV_sg hV6 (fun p _ => ?_)) ((pl_flip hv4.1 hv4.2.1 hpm4 hiT).mp hp4)
              show (if p.1 < i + 1 then !sg p.1 else sg p.1) = if p.1 = i then !(if p.1 < i then !sg p.1 else sg p.1) else if p.1 < i then !sg p.1 else sg p.1
              by_cases h9 : p.1 = i
              · rw [if_pos (by omega), if_pos h9, if_neg (by omega)]
              · rw [if_neg h9]
                by_cases h8 : p.1 < i
                · rw [if_pos h8, if_pos (by omega)]
                · rw [if_neg h8, if_neg (by omega)]
          refine c1 c 0 y3 T (by omega) hT1 hT.1 hT.2.2.1 hN3 f3u (fun d' C' h3 => slC_fr f3 (fun q hq h9 => by unfold cW at hq; unfold cL at h9; omega) h3) hpm ?_ hTp
          have e1 : A.map (List.map (flp (fun j => decide (j < 0)))) = A := by
            have : ∀ L : List (Nat × Nat), L.map (flp (fun j => decide (j < 0))) = L := fun L => by
              conv => rhs; rw [← List.map_id L]
              exact List.map_congr_left (fun p _ => by unfold flp; rfl)
            conv => rhs; rw [← List.map_id A]
            exact List.map_congr_left (fun L _ => this L)
          rw [e1]
          exact hV
      · rintro a v y2 ha ⟨h2, e0⟩
        have e0 : y2 = y1 := e0
        subst e0
        rcases h2 with h2 | h2
        · exact w_some (Or.inr ⟨d, A, sg, hd, rfl, hSt, Or.inl ⟨h2.1, hN, fr_rf, hC, h2.2⟩⟩)
        · exact absurd h2.1 ha
  · rintro a y1 ha ⟨h1, e0⟩
    have e0 : y1 = y := e0
    subst e0
    rcases h1 with h1 | h1
    · exact w_some (Or.inl ⟨h1.1, hN, fr_rf, hC, h1.2⟩)
    · exact absurd h1.1 ha
end XC
end
section
/-! 99zzzzzzzzzb.xjn -/
/-! both sides: what was made is the same diagram -/
section XJ
variable {X : (Nat → Nat → Int32) → Prop} {y z : ow_MS} {St : plT}
theorem relR_put {z1 : ow_MS} {e : Nat} {A' : rn_L} {sg' : Nat → Bool} (hR : relR z St) (he : e < 40) (hne : A' ≠ []) (hv : vRow z1 12 (32 * e) A' sg') (hi : ∀ i, i < 32 * e ∨ 32 * e + 32 ≤ i → z1.2.1 12 i = z.2.1 12 i) : relR z1 (upP St e (some (A', sg'))) := by
  intro d hd
  by_cases ed : d = e
  · subst ed
    rw [show upP St d (some (A', sg')) d = some (A', sg') from if_pos rfl]
    refine ⟨(fun h => by cases h), fun A sg h => ?_⟩
    cases h
    exact ⟨hne, hv⟩
  · rw [show upP St e (some (A', sg')) d = St d from if_neg ed]
    obtain ⟨k1, k2⟩ := hR d hd
    refine ⟨fun h => by rw [hi _ (by omega)]; exact k1 h, fun A sg h => ?_⟩
    obtain ⟨q1, ⟨q2, q3, q4, q5⟩, q6⟩ := k2 A sg h
    refine ⟨q1, ⟨q2, q3, by rw [hi _ (by omega)]; exact q4, fun k t hk => ?_⟩, q6⟩
    have := (List.getElem?_eq_some_iff.mp hk).1
    rw [hi _ (by omega)]
    exact q5 k t hk
theorem relC_put {y1 : ow_MS} {e : Nat} {A' : rn_L} {sg' : Nat → Bool} (hN : dgC y) (hC : relC y St) (hS : okS St) (hs : slC y1 1000 e (clC sg' A')) (ho : ∀ d C, d ≠ e → cOK C → slC y 1000 d C → slC y1 1000 d C) : relC y1 (upP St e (some (A', sg'))) := by
  intro d hd
  by_cases ed : d = e
  · subst ed
    rw [show upP St d (some (A', sg')) d = some (A', sg') from if_pos rfl]
    refine ⟨(fun h => by cases h), fun A sg h => ?_⟩
    cases h
    exact hs
  · rw [show upP St e (some (A', sg')) d = St d from if_neg ed]
    obtain ⟨k1, k2⟩ := hC d hd
    refine ⟨fun h => ?_, fun A sg h => ?_⟩
    · have h0 := k1 h
      rcases hN.2 d hd with ⟨c, c1, c2⟩ | ⟨C, c1, c2, c3⟩
      · exact (ho d _ ed ⟨c1, Nat.zero_le _, fun a ha => by cases ha⟩ c2).2.1
      · exfalso
        have h9 : y.2.1 1002 d = nI C.2.length := c1.2.1
        rw [h9] at h0
        have h30 := (okC_ok c2).2.1
        have := nI_inj9 (a := C.2.length) (b := 0) (by omega) (by omega) h0
        omega
    · obtain ⟨-, -, c, q3⟩ := hS d A sg hd h
      exact ho d _ ed (okL_c q3).2 (k2 A sg h)
/-- one diagram on both sides -/
theorem kp_join {e : Nat} {A2 : rn_L} {sg2 : Nat → Bool} {rc rr : Int32 × ow_MS} (hN : dgC y) (hC : relC y St) (hR : relR z St) (hS : okS St) (he : lstF St e) (h6 : A2.length ≤ 6) (hne : A2 ≠ []) (hc : cKp y e A2 sg2 rc) (hr : rKp X z e A2 sg2 rr) : rc.1 = rr.1 ∧ ∃ A' sg', relC rc.2 (upP St e (some (A', sg'))) ∧ relR rr.2 (upP St e (some (A', sg'))) ∧ okS (upP St e (some (A', sg'))) := by
  obtain ⟨c1, c2, c3, ⟨T, f, Cs, os, t1, t2, t3, t4, t5, t6⟩, c4⟩ := hc
  obtain ⟨r1, r2, r3, r4, ⟨m, P, m1, m2⟩, r5⟩ := hr
  obtain ⟨A', sg', p1, p2, p3, p4, f', p5⟩ := enc_iso (isoS_iff.mp t3.1) h6 t1 m1 t5
  have hne' : A' ≠ [] := fun e9 => by
    rw [e9] at p4
    exact hne (List.length_eq_zero_iff.mp p4.symm)
  refine ⟨by rw [c1, r2], A', sg', relC_put hN hC hS (by rw [← p3]; exact t6) c4, relR_put hR he.1 hne' ⟨by rw [← p1]; exact m2, ⟨T.1, p2.1, t1.2.1⟩, by omega⟩ r5, fun d A sg hd h => ?_⟩
  by_cases ed : d = e
  · subst ed
    rw [show upP St d (some (A', sg')) d = some (A', sg') from if_pos rfl] at h
    cases h
    exact ⟨hne', plnA_of p5 t2 t4, T.1, p2⟩
  · rw [show upP St e (some (A', sg')) d = St d from if_neg ed] at h
    exact hS d A sg hd h
end XJ
end
section
/-! 99zzzzzzzzzc.xap -/
/-! exact calls of the reference: apart -/
theorem cmp_at {B : rn_L} {m i : Nat} (hm : m < B.length) (h1 : rn_b B m ≤ i) (h2 : i < rn_b B (m + 1)) : (B.getD m [])[i - rn_b B m]? = some (vAt B i) := by
  have es : B.flatten = (B.take m).flatten ++ (B[m] ++ (B.drop (m + 1)).flatten) := by
    conv => lhs; rw [← List.take_append_drop m B, List.drop_eq_getElem_cons hm]
    rw [List.flatten_append, List.flatten_cons]
  have hb := rnb_s hm
  have hlt : i < B.flatten.length := Nat.lt_of_lt_of_le h2 (rn_b_le B (m + 1))
  have h3 := vAt_of hlt
  have eg : B.getD m [] = B[m] := by
    rw [List.getD_eq_getElem?_getD, List.getElem?_eq_getElem hm]
    rfl
  rw [eg, ← h3, es, List.getElem?_append_right (show (B.take m).flatten.length ≤ i from h1), List.getElem?_append_left (show i - (B.take m).flatten.length < (B[m]).length by have : rn_b B m = (B.take m).flatten.length := rfl; omega)]
  rfl
theorem cmp_all {B : rn_L} {m : Nat} (hm : m < B.length) : (B.getD m []).take (rn_b B (m + 1) - rn_b B m) = B.getD m [] := by
  have hb := rnb_s hm
  have eg : B.getD m [] = B[m] := by
    rw [List.getD_eq_getElem?_getD, List.getElem?_eq_getElem hm]
    rfl
  rw [eg, show rn_b B (m + 1) - rn_b B m = (B[m]).length by omega, List.take_length]
theorem take_s {α : Type} {L : List α} {k : Nat} {x : α} (h : L[k]? = some x) : L.take (k + 1) = L.take k ++ [x] := by
  rw [List.take_succ, h]
  rfl
theorem tk_snoc {B : rn_L} {m : Nat} (hm : m < B.length) : B.take (m + 1) = B.take m ++ [B.getD m []] := by
  refine take_s ?_
  rw [List.getD_eq_getElem?_getD, List.getElem?_eq_getElem hm]
  rfl
theorem shN_app {s : Nat} {A B : rn_L} : shN s (A ++ B) = shN s A ++ shN s B := by
  unfold shN
  rw [List.map_append]
section XA
variable {X : (Nat → Nat → Int32) → Prop} {z : ow_MS} {St : plT}
theorem xr_addNet {o s c : Nat} {z : ow_MS} {O B : rn_L} {sg : Nat → Bool} (ho : mw_net o) (hon : o ≠ 3000) (hO : oNet z o B sg) (hok : okF B.flatten c) (hl : O.flatten.length + B.flatten.length ≤ 24) (hq : O.length + B.length ≤ 12) (hs : s + c ≤ 24) (hA : rn_At z 3000 O []) : Te (fun K => qe_X13_addNet K o (nI s) z) (fun z1 => rn_At z1 3000 (O ++ shN s B) [] ∧ fr (fun g => 3001 ≤ g ∧ g ≤ 3006) z z1 ∧ (∀ x, x < c → z1.2.1 3006 (x + s) = z.2.1 (o + 6) x) ∧ ∀ x, x < s → z1.2.1 3006 x = z.2.1 3006 x) := by
  have hmo := net_mod ho
  have hBc := okF_len hok
  have oY : ∀ {y : ow_MS}, fr (fun g => 3001 ≤ g ∧ g ≤ 3006) z y → oNet y o B sg := fun hf => oNet_fr hf (fun g hg => by omega) hO
  let Q : ow_MS → Prop := fun z1 => rn_At z1 3000 (O ++ shN s B) [] ∧ fr (fun g => 3001 ≤ g ∧ g ≤ 3006) z z1 ∧ (∀ x, x < c → z1.2.1 3006 (x + s) = z.2.1 (o + 6) x) ∧ ∀ x, x < s → z1.2.1 3006 x = z.2.1 3006 x
  have l3 : ∀ (k x : Nat) (y : ow_MS), x + k = c → fr (fun g => 3001 ≤ g ∧ g ≤ 3006) z y → rn_At y 3000 (O ++ shN s B) [] → (∀ x', x' < x → y.2.1 3006 (x' + s) = z.2.1 (o + 6) x') → (∀ x, x < s → y.2.1 3006 x = z.2.1 3006 x) → Tt (fun K i => q_X13_addNet K i 3 (nI s) (nI x) 0 o y) Q := by
    intro k
    induction k with
    | zero =>
      intro x y hx hf hb h1 h2
      refine u_X13_addNet_3 ?_; unfold qm_X13_addNet_3
      refine w_rdF (oY hf).1.V (w_nzI (by decide) ?_)
      rw [show nI B.flatten.length / 2 = nI (B.flatten.length / 2) from pk_div (d := 2) (by omega) (by omega) (by omega)]
      exact w_leT (by omega) (by omega) (w_some ⟨hb, hf, fun x' hx' => h1 x' (by omega), h2⟩)
    | succ k ih =>
      intro x y hx hf hb h1 h2
      refine u_X13_addNet_3 ?_; unfold qm_X13_addNet_3
      refine w_rdF (oY hf).1.V (w_nzI (by decide) ?_)
      rw [show nI B.flatten.length / 2 = nI (B.flatten.length / 2) from pk_div (d := 2) (by omega) (by omega) (by omega), nI_add, nI_1]
      refine w_leF (by omega) (by omega) (w_rdI (pl6 ho) rfl (by omega) rfl (w_wrI (pl6 pn3) rfl (by omega) ?_))
      refine ih (x + 1) _ (by omega) (fr_I2 hf (by omega)) (fr_At (P := fun g => g = 3006) (fr_I rfl) (fun g hg => by omega) hb) (fun x' hx' => ?_) (fun x' hx' => rd_ne (by omega) (h2 x' hx'))
      by_cases he : x' = x
      · rw [he]
        show (usI y 3006 (x + s) (y.2.1 (o + 6) x)).2.1 3006 (x + s) = _
        rw [po_usI_at, (hf (o + 6) (by omega)).2.1]
      · exact rd_ne (by omega) (h1 x' (by omega))
  have lenS : ∀ m, m ≤ B.length → (O ++ shN s (B.take m)).flatten.length = O.flatten.length + rn_b B m := fun m _ => by
    rw [List.flatten_append, List.length_append, shN_fl, List.length_map]
    rfl
  have out : ∀ (k m : Nat) (y : ow_MS), m + k = B.length → fr (fun g => 3001 ≤ g ∧ g ≤ 3006) z y → y.2.1 3006 = z.2.1 3006 → rn_At y 3000 (O ++ shN s (B.take m)) [] → Tt (fun K i => q_X13_addNet K i 1 (nI s) (nI m) 0 o y) Q := by
    intro k
    induction k with
    | zero =>
      intro m y hm hf h6 hb
      have hme : m = B.length := by omega
      rw [hme, List.take_length] at hb
      refine u_X13_addNet_1 ?_; unfold qm_X13_addNet_1
      exact w_rdF (lk_C (oY hf).1) (w_leT (by omega) (by omega) (l3 c 0 y (by omega) hf hb (fun x hx => by omega) (fun x _ => by rw [h6])))
    | succ k ih =>
      intro m y hm hf h6 hb
      have hmB : m < B.length := by omega
      have hmono := rn_b_mono B m
      have hble := rn_b_le B (m + 1)
      have inn : ∀ (k i : Nat) (y : ow_MS), i + k = rn_b B (m + 1) → rn_b B m ≤ i → fr (fun g => 3001 ≤ g ∧ g ≤ 3006) z y → y.2.1 3006 = z.2.1 3006 → rn_At y 3000 (O ++ shN s (B.take m)) (((B.getD m []).take (i - rn_b B m)).map (shv s)) → Tt (fun K i9 => q_X13_addNet K i9 2 (nI s) (nI m) (nI i) o y) Q := by
        intro k
        induction k with
        | zero =>
          intro i y hi hlo hf h6 hb
          have hie : i = rn_b B (m + 1) := by omega
          rw [hie] at hb ⊢
          rw [cmp_all hmB] at hb
          refine u_X13_addNet_2 ?_; unfold qm_X13_addNet_2
          rw [nI_1]
          refine w_rdI (pl3 ho) rfl (by omega) (lk_b (oY hf).1 (by omega)) (w_leT (by omega) (Nat.le_refl _) (w_cs0 (tn_end pn3 hb (by rw [List.length_append]; unfold shN; rw [List.length_map, List.length_take]; omega)) (fun y2 ⟨g1, g2⟩ => ih (m + 1) y2 (by omega) (fr_tr hf (fr_mono (fun g hg => by omega) g2)) (by rw [(g2 3006 (by omega)).2.1]; exact h6) ?_)))
          rw [tk_snoc hmB, shN_app, ← List.append_assoc]
          exact g1
        | succ k ihk =>
          intro i y hi hlo hf h6 hb
          have hil : i < B.flatten.length := by omega
          have hat := cmp_at hmB hlo (show i < rn_b B (m + 1) by omega)
          have hbl : ((B.getD m []).take (i - rn_b B m)).length ≤ i - rn_b B m := by rw [List.length_take]; omega
          refine u_X13_addNet_2 ?_; unfold qm_X13_addNet_2
          rw [nI_1]
          refine w_rdI (pl3 ho) rfl (by omega) (lk_b (oY hf).1 (by omega)) (w_leF (by omega) (by omega) (w_rdI (pl4 ho) rfl (by omega) (lk_cu (oY hf).1 hil).1 (w_rdI (pl5 ho) rfl (by omega) (lk_cu (oY hf).1 hil).2 ?_)))
          rw [nI_add]
          refine w_cs0 (tn_add (x := crs B i + s) (u := uns B i) pn3 hb (by rw [List.length_append, lenS m (by omega), List.length_map]; omega)) (fun y2 ⟨g1, g2⟩ => ?_)
          rw [nI_1]
          refine ihk (i + 1) y2 (by omega) (by omega) (fr_tr hf (fr_mono (fun g hg => by omega) g2)) (by rw [(g2 3006 (by omega)).2.1]; exact h6) ?_
          rw [show i + 1 - rn_b B m = (i - rn_b B m) + 1 by omega, take_s hat, List.map_append]
          exact g1
      refine u_X13_addNet_1 ?_; unfold qm_X13_addNet_1
      refine w_rdF (lk_C (oY hf).1) (w_leF (by omega) (by omega) (w_rdI (pl3 ho) rfl (by omega) (lk_b (oY hf).1 (by omega)) (inn _ (rn_b B m) y (by omega : rn_b B m + (rn_b B (m + 1) - rn_b B m) = _) (Nat.le_refl _) hf h6 ?_)))
      rw [Nat.sub_self, List.take_zero]
      exact hb
  refine e_X13_addNet ?_
  refine u_X13_addNet_0 ?_; unfold qm_X13_addNet_0
  refine out B.length 0 z (by omega) fr_rf rfl ?_
  rw [List.take_zero]
  show rn_At z 3000 (O ++ []) []
  rw [List.append_nil]
  exact hA
theorem okB_0 {F : List (Nat × Nat)} {c : Nat} : okB F 0 c ↔ okF F c := by
  unfold okB okF
  constructor
  · rintro ⟨h1, h2⟩
    exact ⟨h1, fun p => by rw [h2]; omega⟩
  · rintro ⟨h1, h2⟩
    exact ⟨h1, fun p => by rw [h2]; omega⟩
theorem app_ok {A B : rn_L} {a b : Nat} (ha : okF A.flatten a) (hb : okF B.flatten b) : okF (A ++ shN a B).flatten (a + b) := by
  rw [← okB_0, List.flatten_append]
  refine okB_app (okB_0.mpr ha) ?_
  rw [Nat.zero_add]
  exact okF_sh hb
theorem xq_apart {x x' : Int32} (h : gI X z) (hR : relR z St) : Te (fun K => qe_X13_apart K x x' z) (fun r => rFl X z 1 r ∧ ((∀ d, d < 40 → x = nI d → St d = none) ∨ ∀ d, d < 40 → x' = nI d → St d = none) ∨ ∃ d A sg e B sg', d < 40 ∧ x = nI d ∧ St d = some (A, sg) ∧ e < 40 ∧ x' = nI e ∧ St e = some (B, sg') ∧ (rFl X z 2 r ∧ (24 < A.flatten.length + B.flatten.length ∨ 6 < A.length + B.length) ∨ A.flatten.length + B.flatten.length ≤ 24 ∧ A.length + B.length ≤ 6 ∧ (rFl X z 3 r ∧ allF St ∨ ∃ f, lstF St f ∧ rKp X z f (A ++ shN (A.flatten.length / 2) B) (fun k => if k < A.flatten.length / 2 then sg k else sg' (k - A.flatten.length / 2)) r))) := by
  let Q : Int32 × ow_MS → Prop := fun r => rFl X z 1 r ∧ ((∀ d, d < 40 → x = nI d → St d = none) ∨ ∀ d, d < 40 → x' = nI d → St d = none) ∨ ∃ d A sg e B sg', d < 40 ∧ x = nI d ∧ St d = some (A, sg) ∧ e < 40 ∧ x' = nI e ∧ St e = some (B, sg') ∧ (rFl X z 2 r ∧ (24 < A.flatten.length + B.flatten.length ∨ 6 < A.length + B.length) ∨ A.flatten.length + B.flatten.length ≤ 24 ∧ A.length + B.length ≤ 6 ∧ (rFl X z 3 r ∧ allF St ∨ ∃ f, lstF St f ∧ rKp X z f (A ++ shN (A.flatten.length / 2) B) (fun k => if k < A.flatten.length / 2 then sg k else sg' (k - A.flatten.length / 2)) r))
  have h1 := gI_1 (c := 0) h
  have hR1 := relR_1 (c := 0) hR
  have c1 : ((∀ d, d < 40 → x = nI d → St d = none) ∨ ∀ d, d < 40 → x' = nI d → St d = none) → Tt (fun K k => q_X13_apart K k 1 x x' (usF z 1 0)) Q := by
    intro hno
    refine u_X13_apart_1 ?_; unfold qm_X13_apart_1
    exact w_mono (w_failX (k := 1) h1 fr_1) (fun r hr => Or.inl ⟨hr, hno⟩)
  refine e_X13_apart ?_
  refine u_X13_apart_0 ?_; unfold qm_X13_apart_0
  refine w_wrF (w_hasX hR1 (fun h0 => w_ifT rfl (c1 (Or.inl h0))) (fun d9 A sg hd9 hx hs hv hne => w_ifF (by decide) (w_hasX hR1 (fun h0 => w_ifT rfl (c1 (Or.inr h0))) (fun e9 B sg2 he9 hy hs2 hw hne2 => w_ifF (by decide) ?_))))
  have op1 := to_open pn1 hd9 hv
  rw [← hx] at op1
  refine w_cs0 op1 (fun z2 ⟨o1, f1⟩ => ?_)
  have h2 : gI X z2 := gI_net pn1 f1 (fun g hg => by omega) h1
  have hw2 : vRow z2 12 (32 * e9) B sg2 := ⟨rc_fr f1 (by omega) hw.1, hw.2⟩
  have op2 := to_open pn2 he9 hw2
  rw [← hy] at op2
  refine w_cs0 op2 (fun z3 ⟨o2, f2⟩ => ?_)
  have h3 : gI X z3 := gI_net pn2 f2 (fun g hg => by omega) h2
  have o1' := oNet_fr f2 (fun g hg => by omega) o1
  have l1 := o1.len
  have l2 := o2.len
  have k1 := o1.2.2.2
  have k2 := o2.2.2.2
  obtain ⟨a, ha, ha12⟩ := o1.2.2.1
  obtain ⟨b, hb, hb12⟩ := o2.2.2.1
  have hVa := okF_len ha
  have hVb := okF_len hb
  have f03 : fr rPs z z3 := fr_tr fr_1 (fr_tr (fr_mono (fun g hg => Or.inr (by unfold rSc; omega)) f1) (fr_mono (fun g hg => Or.inr (by unfold rSc; omega)) f2))
  have hR3 : relR z3 St := relR_fr f2 (by omega) (relR_fr f1 (by omega) hR1)
  have z31 : z3.1 1 = 0 := by
    rw [(f2 1 (by omega)).1, (f1 1 (by omega)).1]
    exact po_usF_at
  have fin : ∀ {r}, (rFl X z 2 r ∧ (24 < A.flatten.length + B.flatten.length ∨ 6 < A.length + B.length) ∨ A.flatten.length + B.flatten.length ≤ 24 ∧ A.length + B.length ≤ 6 ∧ (rFl X z 3 r ∧ allF St ∨ ∃ f, lstF St f ∧ rKp X z f (A ++ shN (A.flatten.length / 2) B) (fun k => if k < A.flatten.length / 2 then sg k else sg2 (k - A.flatten.length / 2)) r)) → Q r := fun hr => Or.inr ⟨d9, A, sg, e9, B, sg2, hd9, hx, hs, he9, hy, hs2, hr⟩
  have c2 : (24 < A.flatten.length + B.flatten.length ∨ 6 < A.length + B.length) → Tt (fun K k => q_X13_apart K k 2 x x' z3) Q := by
    intro hno
    refine u_X13_apart_2 ?_; unfold qm_X13_apart_2
    exact w_mono (w_failX (k := 2) h3 f03) (fun r hr => fin (Or.inl ⟨hr, hno⟩))
  refine w_rdF o1'.1.V (w_rdF o2.1.V ?_)
  rw [nI_add]
  refine w_lt (a := 24) (by omega) (by omega) (fun h9 => c2 (Or.inl h9)) (fun h24 => w_rdF (lk_C o1'.1) (w_rdF (lk_C o2.1) ?_))
  rw [nI_add]
  refine w_le (b := 6) (by omega) (by omega) (fun h6 => w_freeX hR3 (fun hall => w_ifT rfl (w_mono (w_failX (k := 3) h3 f03) (fun r hr => fin (Or.inr ⟨by omega, h6, Or.inl ⟨hr, hall⟩⟩)))) (fun f hfr => w_ifF (rn_neg1 (by have := hfr.1; omega)) (w_cs0 (tn_clear pn3) (fun z4 ⟨b4, f4⟩ => ?_)))) (fun h9 => c2 (Or.inr h9))
  have o4 := oNet_fr f4 (fun g hg => by omega) o1'
  have o4b := oNet_fr f4 (fun g hg => by omega) o2
  refine w_cs0 (xr_addNet (O := []) (s := 0) pn1 (by omega) o4 ha (by show 0 + _ ≤ _; omega) (by show 0 + _ ≤ _; omega) (by omega) b4) (fun z5 ⟨b5, f5, s5, _⟩ => ?_)
  have o5 := oNet_fr f5 (fun g hg => by omega) o4
  have o5b := oNet_fr f5 (fun g hg => by omega) o4b
  have esh : [] ++ shN 0 A = A := by
    rw [List.nil_append]
    unfold shN
    conv => rhs; rw [← List.map_id A]
    refine List.map_congr_left (fun L _ => ?_)
    conv => rhs; rw [← List.map_id L]
    exact List.map_congr_left (fun p _ => rfl)
  rw [esh] at b5
  refine w_rdF o5.1.V (w_nzI (by decide) ?_)
  have ea : A.flatten.length / 2 = a := by omega
  rw [show nI A.flatten.length / 2 = nI a from by rw [show nI A.flatten.length / 2 = nI (A.flatten.length / 2) from pk_div (d := 2) (by omega) (by omega) (by omega), ea]]
  refine w_cs0 (xr_addNet (O := A) (s := a) pn2 (by omega) o5b hb (by omega) (by omega) (by omega) b5) (fun z6 ⟨b6, f6, s6, t6⟩ => ?_)
  have F36 : fr (fun g => 3001 ≤ g ∧ g ≤ 3006) z3 z6 := fr_tr (fr_mono (fun g hg => by omega) f4) (fr_tr f5 f6)
  have ok12 := app_ok ha hb
  have wk12 := okF_wk (by omega) ok12
  rw [ea] at fin
  refine w_mono (w_keepX (z0 := z) (sg2 := fun k => if k < a then sg k else sg2 (k - a)) (gI_net pn3 F36 (fun g hg => by omega) h3) (relR_fr F36 (by omega) hR3) hfr (by rw [(F36 1 (by omega)).1]; exact z31) (fr_tr f03 (fr_mono (fun g hg => Or.inr (by unfold rSc; omega)) F36)) b6 (fun p hp => ?_) wk12 (by rw [okF_len ok12]; omega) (by rw [List.length_append]; unfold shN; rw [List.length_map]; exact h6)) (fun r hr => fin (Or.inr ⟨by omega, h6, Or.inr ⟨f, hfr, hr⟩⟩))
  show z6.2.1 3006 p.1 = if (if p.1 < a then sg p.1 else sg2 (p.1 - a)) = true then -1 else 1
  rw [List.flatten_append] at hp
  rcases List.mem_append.mp hp with hpa | hpb
  · have hlt := ((ha.2 p).mp hpa).1
    rw [if_pos hlt, t6 _ hlt]
    have := s5 _ hlt
    rw [Nat.add_zero] at this
    rw [this]
    exact o4.2.1 p hpa
  · rw [shN_fl] at hpb
    obtain ⟨q, hq, rfl⟩ := List.mem_map.mp hpb
    have hlt := ((hb.2 q).mp hq).1
    show z6.2.1 3006 (q.1 + a) = if (if q.1 + a < a then sg (q.1 + a) else sg2 (q.1 + a - a)) = true then -1 else 1
    have e9 : (if q.1 + a < a then sg (q.1 + a) else sg2 (q.1 + a - a)) = sg2 q.1 := by rw [if_neg (by omega), Nat.add_sub_cancel]
    rw [e9, s6 _ hlt]
    exact o5b.2.1 q hq
end XA
end
section
/-! 99zzzzzzzzzd.iap -/
/-! nets side by side: what they show, and plane -/
section IAP
variable {A B : rn_L} {sg sg' : Nat → Bool} {f f' : Nat → Nat} {T R : ow_NT} {k : Nat}
theorem ntA_lo (N M : Nat → Nat) {j : Nat} (hj : j < 2 * T.1) : np_app N M (2 * T.1) (2 * R.1) j = N j := if_neg (by omega)
theorem ntA_hi (N M : Nat → Nat) {j : Nat} (hj : j < 2 * R.1) : np_app N M (2 * T.1) (2 * R.1) (2 * T.1 + j) = 2 * T.1 + M j := by
  unfold np_app
  rw [if_pos (by omega), show 2 * T.1 + j - 2 * T.1 = j by omega]
theorem ntA_g0 {x : Nat} (hx : x < T.1) : (ntA T R).2.2.2 x = T.2.2.2 x := by
  show va_cpy R.2.2.2 T.2.2.2 0 T.1 R.1 x = _
  unfold va_cpy
  rw [if_neg (by omega)]
theorem ntA_g1 {x : Nat} (hx : x < R.1) : (ntA T R).2.2.2 (T.1 + x) = R.2.2.2 x := by
  show va_cpy R.2.2.2 T.2.2.2 0 T.1 R.1 (T.1 + x) = _
  unfold va_cpy
  rw [if_pos (by omega), show 0 + (T.1 + x - T.1) = x by omega]
theorem pm1_A (hT : pm1 T) (hR : pm1 R) : pm1 (ntA T R) := fun x hx => by
  have hx : x < T.1 + R.1 := hx
  by_cases e : x < T.1
  · rw [ntA_g0 e]
    exact hT x e
  · obtain ⟨j, rfl⟩ : ∃ j, x = T.1 + j := ⟨x - T.1, by omega⟩
    rw [ntA_g1 (show j < R.1 by omega)]
    exact hR j (by omega)
theorem pl_app (hT : nv T) (hR : nv R) (h12 : T.1 + R.1 ≤ 12) (hp : nt_plane T = true) (hq : nt_plane R = true) : nt_plane (ntA T R) = true := by
  obtain ⟨a1, -, -, -, -⟩ := ntA_ok hT hR h12
  rw [plane_iff a1 h12]
  refine un_sup (c := T.1 + R.1) (ψA := fun v => v) (ψB := fun v => 2 * T.1 + v) a1 hT.1 hR.1 (fun v hv => ⟨show v < 2 * (T.1 + R.1) by omega, ntA_lo _ _ hv, rfl, ?_⟩) (fun v hv => ⟨show 2 * T.1 + v < 2 * (T.1 + R.1) by omega, ntA_hi _ _ hv, ?_, ?_⟩) ⟨rfl, fun u v _ _ e => e, fun u v _ _ e => Nat.add_left_cancel e, fun u v hu _ e => by have e : u = 2 * T.1 + v := e; omega⟩ ((plane_iff hT.1 hT.2.1).mp hp) ((plane_iff hR.1 hR.2.1).mp hq)
  · show stG (ntA T R).2.2.2 v = stG T.2.2.2 v
    unfold stG
    rw [ntA_g0 (show v / 2 < T.1 by omega)]
  · show mt (2 * T.1 + v) = 2 * T.1 + mt v
    unfold mt
    split <;> split <;> omega
  · show stG (ntA T R).2.2.2 (2 * T.1 + v) = stG R.2.2.2 v
    unfold stG
    rw [show (2 * T.1 + v) / 2 = T.1 + v / 2 by omega, show (2 * T.1 + v) % 2 = v % 2 by omega, ntA_g1 (show v / 2 < R.1 by omega)]
theorem cirs_app2 (A B : rn_L) : cirs (A ++ B) = cirs A + cirs B := by
  unfold cirs
  rw [List.countP_append]
theorem iso_app (h : isoV A sg f T) (h' : isoV B sg' f' R) (hv : vn (ntA T R).1 (ntA T R).2.2.1) (h12 : T.1 + R.1 ≤ 12) (hA : ∀ p, p ∈ A.flatten → p.1 < k) (hB : ∀ p, p ∈ B.flatten → p.1 + k < 40) : isoV (A ++ shN k B) (fun x => if x < k then sg x else sg' (x - k)) (fun x => if x < k then f x else T.1 + f' (x - k)) (ntA T R) := by
  have fl : (A ++ shN k B).flatten = A.flatten ++ B.flatten.map (shv k) := by
    rw [List.flatten_append, shN_fl]
    rfl
  have glA : ∀ p, p ∈ A.flatten → gl (fun x => if x < k then f x else T.1 + f' (x - k)) p = gl f p := fun p hp => by
    show 2 * (if p.1 < k then f p.1 else T.1 + f' (p.1 - k)) + p.2 = 2 * f p.1 + p.2
    rw [if_pos (hA p hp)]
  have glB : ∀ q : vT, gl (fun x => if x < k then f x else T.1 + f' (x - k)) (shv k q) = 2 * T.1 + gl f' q := fun q => by
    show 2 * (if q.1 + k < k then f (q.1 + k) else T.1 + f' (q.1 + k - k)) + q.2 = 2 * T.1 + (2 * f' q.1 + q.2)
    rw [if_neg (by omega), Nat.add_sub_cancel]
    omega
  refine isoV_of (isoS_iff.mp ⟨?_, ?_, h12, ?_, ?_, ?_, ?_, ?_⟩) hv
  · rw [fl]
    refine ⟨List.nodup_append.mpr ⟨h.1.1.1, nodup_map h'.1.1.1 (fun p q _ _ e => ?_), fun p hp q hq e => ?_⟩, fun p hp => ?_⟩
    · unfold shv at e
      have e1 := congrArg Prod.fst e
      have e2 := congrArg Prod.snd e
      dsimp only at e1 e2
      exact Prod.ext (by omega) e2
    · obtain ⟨q0, -, rfl⟩ := List.mem_map.mp hq
      have := hA p hp
      rw [e] at this
      have this : q0.1 + k < k := this
      omega
    · rcases List.mem_append.mp hp with hp | hp
      · obtain ⟨a1, a2, a3⟩ := h.1.1.2 p hp
        exact ⟨a1, a2, List.mem_append_left _ a3⟩
      · obtain ⟨q, q1, rfl⟩ := List.mem_map.mp hp
        obtain ⟨a1, a2, a3⟩ := h'.1.1.2 q q1
        exact ⟨hB q q1, a2, List.mem_append_right _ (List.mem_map.mpr ⟨_, a3, rfl⟩)⟩
  · rw [fl, List.length_append, List.length_map, h.1.2.1, h'.1.2.1]
    show 2 * T.1 + 2 * R.1 = 2 * (T.1 + R.1)
    omega
  · intro p hp
    rw [fl] at hp
    show (if p.1 < k then f p.1 else T.1 + f' (p.1 - k)) < T.1 + R.1
    rcases List.mem_append.mp hp with hp | hp
    · rw [if_pos (hA p hp)]
      have := h.1.2.2.2.1 p hp
      omega
    · obtain ⟨q, q1, rfl⟩ := List.mem_map.mp hp
      show (if q.1 + k < k then _ else T.1 + f' (q.1 + k - k)) < _
      rw [if_neg (by omega), Nat.add_sub_cancel]
      have := h'.1.2.2.2.1 q q1
      omega
  · intro p q hp hq e
    rw [fl] at hp hq
    have e : (if p.1 < k then f p.1 else T.1 + f' (p.1 - k)) = (if q.1 < k then f q.1 else T.1 + f' (q.1 - k)) := e
    rcases List.mem_append.mp hp with hp | hp
    · have b1 := h.1.2.2.2.1 p hp
      rw [if_pos (hA p hp)] at e
      rcases List.mem_append.mp hq with hq | hq
      · rw [if_pos (hA q hq)] at e
        exact h.1.2.2.2.2.1 p q hp hq e
      · obtain ⟨q0, q1, rfl⟩ := List.mem_map.mp hq
        rw [if_neg (show ¬ (shv k q0).1 < k by show ¬ q0.1 + k < k; omega)] at e
        omega
    · obtain ⟨p0, p1, rfl⟩ := List.mem_map.mp hp
      have e : (if p0.1 + k < k then f (p0.1 + k) else T.1 + f' (p0.1 + k - k)) = _ := e
      rw [if_neg (by omega), Nat.add_sub_cancel] at e
      rcases List.mem_append.mp hq with hq | hq
      · have b1 := h.1.2.2.2.1 q hq
        rw [if_pos (hA q hq)] at e
        omega
      · obtain ⟨q0, q1, rfl⟩ := List.mem_map.mp hq
        have e : T.1 + f' p0.1 = (if q0.1 + k < k then f (q0.1 + k) else T.1 + f' (q0.1 + k - k)) := e
        rw [if_neg (by omega), Nat.add_sub_cancel] at e
        show p0.1 + k = q0.1 + k
        rw [h'.1.2.2.2.2.1 p0 q0 p1 q1 (by omega)]
  · intro L hL p hp
    rcases List.mem_append.mp hL with hL | hL
    · have pF : p ∈ A.flatten := List.mem_flatten.mpr ⟨L, hL, hp⟩
      have sF : sc L p ∈ A.flatten := List.mem_flatten.mpr ⟨L, hL, sc_in hp (L_nd h.1.1.1 hL)⟩
      rw [glA p pF, glA _ sF, ← (h.2 L hL p hp).1]
      exact ntA_lo _ _ (gl_lt h pF)
    · obtain ⟨L0, l1, rfl⟩ := List.mem_map.mp hL
      obtain ⟨q, q1, rfl⟩ := List.mem_map.mp hp
      have nL := L_nd h'.1.1.1 l1
      have qF : q ∈ B.flatten := List.mem_flatten.mpr ⟨L0, l1, q1⟩
      have es : sc (L0.map (fun p => (p.1 + k, p.2))) (q.1 + k, q.2) = shv k (sc L0 q) := sc_map (s := shv k) nL (fun a b _ _ e => by
        have e1 := congrArg Prod.fst e
        have e2 := congrArg Prod.snd e
        have e1 : a.1 + k = b.1 + k := e1
        exact Prod.ext (by omega) e2) q1
      rw [es, glB, show gl (fun x => if x < k then f x else T.1 + f' (x - k)) (q.1 + k, q.2) = 2 * T.1 + gl f' q from glB q, ← (h'.2 L0 l1 q q1).1]
      exact ntA_hi _ _ (gl_lt h' qF)
  · intro p hp
    rw [fl] at hp
    show (ntA T R).2.2.2 (if p.1 < k then f p.1 else T.1 + f' (p.1 - k)) < 0 ↔ (if p.1 < k then sg p.1 else sg' (p.1 - k)) = true
    rcases List.mem_append.mp hp with hp | hp
    · rw [if_pos (hA p hp), if_pos (hA p hp), ntA_g0 (h.1.2.2.2.1 p hp)]
      exact h.1.2.2.2.2.2.2.1 p hp
    · obtain ⟨q, q1, rfl⟩ := List.mem_map.mp hp
      show (ntA T R).2.2.2 (if q.1 + k < k then f (q.1 + k) else T.1 + f' (q.1 + k - k)) < 0 ↔ (if q.1 + k < k then sg (q.1 + k) else sg' (q.1 + k - k)) = true
      rw [if_neg (by omega), if_neg (by omega), Nat.add_sub_cancel, ntA_g1 (h'.1.2.2.2.1 q q1)]
      exact h'.1.2.2.2.2.2.2.1 q q1
  · have hc : cirs (shN k B) = cirs B := cirs_map (g := fun p => (p.1 + k, p.2)) B
    rw [cirs_app2, hc, h.1.2.2.2.2.2.2.2, h'.1.2.2.2.2.2.2.2]
    rfl
end IAP
end
section
/-! 99zzzzzzzzze.xca -/
/-! exact calls of the class: apart, join's beginning -/
/-- a net that was loaded: what it shows, its signs, plane -/
def ldN (y : ow_MS) (h : Nat) (A : rn_L) (sg : Nat → Bool) (T : ow_NT) : Prop := shA y h A sg T ∧ isoV A sg (fun x => x) T ∧ pm1 T ∧ nt_plane T = true
section XCA
variable {vl : Nat → Nat} {y : ow_MS} {St : plT} {x x' : Int32}
theorem xc_ldh {h d c : Nat} {A : rn_L} {sg : Nat → Bool} (hh : nH h) (hN : gN y) (hd : d < 40) (hs : slC y 1000 d (clC sg A)) (hA : okL A c) (hp : plnA A sg) : Te (fun K => ce_X7_load vl K h 1000 (nI d) y) (fun y1 => gN y1 ∧ fr (cL h) y y1 ∧ ∃ T, ldN y1 h A sg T ∧ T.1 = c) := by
  refine w_monoE (tc_ld3 hh hN hd hs hA) ?_
  rintro y2 ⟨g1, g2, S, G, g3, g4⟩
  have hV : isoV A sg (fun x => x) (c, cirs A, S, G) := isoV_of g4.2.1 g4.2.2.1
  exact ⟨g1, g2, _, ⟨g3, hV, jn_pm1 g4, hp _ _ hV (jn_pm1 g4)⟩, rfl⟩
theorem xc_loadBoth {d e c c' j : Nat} {A B : rn_L} {sg sg' : Nat → Bool} (hN : gN y) (hC : relC y St) (hd : d < 40) (he : e < 40) (hs : slC y 1000 d (clC sg A)) (hA : okL A c) (hpA : plnA A sg) (hs' : slC y 1000 e (clC sg' B)) (hB : okL B c') (hpB : plnA B sg') (hne : A ≠ []) (hj : j ≤ 1) : Te (fun K => ce_X11_loadBoth vl K 0 (nI d) (nI e) (nI j) y) (fun r => gN r.2 ∧ fr uP y r.2 ∧ relC r.2 St ∧ (∀ d C, slC y 1000 d C → slC r.2 1000 d C) ∧ (r.1 = 0 ∧ c + c' ≤ 12 ∧ A.length + B.length - j ≤ 6 ∧ (∃ T R, ldN r.2 4000 A sg T ∧ ldN r.2 5000 B sg' R ∧ T.1 = c ∧ R.1 = c') ∨ r.1 = 4 ∧ (12 < c + c' ∨ 6 < A.length + B.length - j))) := by
  refine e_X11_loadBoth ?_; unfold cm_X11_loadBoth_0
  refine w_cs0 (xc_ldh nH4 hN hd hs hA hpA) ?_
  rintro y1 ⟨hN1, f1, T, hT, hT1⟩
  have f1u : fr uP y y1 := fr_mono (fun g hg => by unfold cL at hg; unfold uP; omega) f1
  have sl1 : ∀ d C, slC y 1000 d C → slC y1 1000 d C := fun d C h => slC_fr f1 (fun q hq h9 => by unfold cW at hq; unfold cL at h9; omega) h
  refine w_cs0 (xc_ldh nH5 hN1 he (sl1 _ _ hs') hB hpB) ?_
  rintro y2 ⟨hN2, f2, R, hR, hR1⟩
  have f2u : fr uP y y2 := fr_tr f1u (fr_mono (fun g hg => by unfold cL at hg; unfold uP; omega) f2)
  have sl2 : ∀ d C, slC y 1000 d C → slC y2 1000 d C := fun d C h => slC_fr f2 (fun q hq h9 => by unfold cW at hq; unfold cL at h9; omega) (sl1 d C h)
  have hC2 : relC y2 St := relC_fr f2 (fun q hq h9 => by unfold cW at hq; unfold cL at h9; omega) (relC_fr f1 (fun q hq h9 => by unfold cW at hq; unfold cL at h9; omega) hC)
  have k4 : ∀ g, 4001 ≤ g → g ≤ 4011 → ¬ cL 5000 g := fun g g1 g2 h9 => by unfold cL at h9; omega
  have hT2' : shA y2 4000 A sg T := by
    obtain ⟨a1, a2, a3, a4, a5, a6⟩ := hT.1
    refine ⟨cAt_fr f2 (fun g hg => k4 g (by unfold cP at hg; omega) (by unfold cP at hg; omega)) a1, a2, a3, fun i q e => ?_, fun v hv => ?_, ?_⟩
    · rw [(f2 4004 (k4 _ (by omega) (by omega))).2.1]
      exact a4 i q e
    · rw [(f2 4005 (k4 _ (by omega) (by omega))).2.1]
      exact a5 v hv
    · rw [(f2 4010 (k4 _ (by omega) (by omega))).1]
      exact a6
  have t12 := hT.1.2.2.1.2.1
  have r12 := hR.1.2.2.1.2.1
  have hA6 := hA.2.2.2.2
  have hB6 := hB.2.2.2.2
  have hA1 : 1 ≤ A.length := List.length_pos_iff.mpr hne
  refine w_rdF hT2'.1.1 (w_rdF hR.1.1.1 ?_)
  rw [nI_add]
  refine w_lt (a := 12) (by omega) (by omega) (fun h9 => w_some ⟨hN2, f2u, hC2, sl2, Or.inr ⟨rfl, Or.inl (by omega)⟩⟩) (fun h9 => w_rdF hT2'.2.2.2.2.2 (w_rdF hR.1.2.2.2.2.2 ?_))
  rw [nI_add, show nI (A.length + B.length) - nI j = nI (A.length + B.length - j) from pk_sub (by omega)]
  refine w_le (b := 6) (by omega) (by omega) (fun h6 => w_some ⟨hN2, f2u, hC2, sl2, Or.inl ⟨rfl, by omega, h6, T, R, ⟨hT2', hT.2⟩, hR, hT1, hR1⟩⟩) (fun h9 => w_some ⟨hN2, f2u, hC2, sl2, Or.inr ⟨rfl, Or.inr h9⟩⟩)
theorem xc_apart (hN : gN y) (hC : relC y St) (hS : okS St) : Te (fun K => ce_X11_apart vl K 0 x x' y) (fun r => r.1 = 1 ∧ gN r.2.2 ∧ fr uP y r.2.2 ∧ relC r.2.2 St ∧ ((∀ d, d < 40 → x = nI d → St d = none) ∨ ∀ d, d < 40 → x' = nI d → St d = none) ∨ ∃ d A sg e B sg', d < 40 ∧ x = nI d ∧ St d = some (A, sg) ∧ e < 40 ∧ x' = nI e ∧ St e = some (B, sg') ∧ (r.1 = 4 ∧ gN r.2.2 ∧ fr uP y r.2.2 ∧ relC r.2.2 St ∧ (24 < A.flatten.length + B.flatten.length ∨ 6 < A.length + B.length) ∨ A.flatten.length + B.flatten.length ≤ 24 ∧ A.length + B.length ≤ 6 ∧ (r.1 = 3 ∧ gN r.2.2 ∧ fr uP y r.2.2 ∧ relC r.2.2 St ∧ allF St ∨ r.1 = 0 ∧ ∃ f, lstF St f ∧ cKp y f (A ++ shN (A.flatten.length / 2) B) (fun k => if k < A.flatten.length / 2 then sg k else sg' (k - A.flatten.length / 2)) r.2))) := by
  refine e_X11_apart ?_; unfold cm_X11_apart_0
  refine w_tc0 (xc_need hN.1 hC hS) ?_ ?_
  · rintro y1 ⟨h1, rfl⟩
    rcases h1 with h1 | ⟨-, d, A, sg, c, hd, rfl, hSt, hs, hA, hne, hpl⟩
    · exact absurd (show (0 : Nat) = 1 from h1.1) (by decide)
    · refine w_tc0 (xc_need hN.1 hC hS) ?_ ?_
      · rintro y2 ⟨h2, rfl⟩
        rcases h2 with h2 | ⟨-, e, B, sg', c', he, rfl, hSt', hs', hB, hne', hpl'⟩
        · exact absurd (show (0 : Nat) = 1 from h2.1) (by decide)
        · have lA := okF_len hA.1
          have lB := okF_len hB.1
          have ea : A.flatten.length / 2 = c := by omega
          refine w_tc0 (xc_loadBoth (j := 0) hN hC hd he hs hA hpl hs' hB hpl' hne (by omega)) ?_ ?_
          · rintro y3 ⟨hN3, f3, hC3, sl3, h3⟩
            rcases h3 with ⟨-, h12, h6, T, R, hT, hR, eT, eR⟩ | h3
            · have h12' : T.1 + R.1 ≤ 12 := by omega
              refine w_tc1 (xc_free hN3.1 hC3 hS) ?_ ?_
              · rintro v y4 ⟨h4, rfl⟩
                rcases h4 with h4 | ⟨-, q, rfl, hq⟩
                · exact absurd (show (0 : Nat) = 3 from h4.1) (by decide)
                · refine w_cs0 (tc_append nH4 nH5 (by unfold nDj; omega) hT.1.1 hR.1.1 h12') ?_
                  rintro y5 ⟨g1, g2⟩
                  have g1 : cAt y5 4000 (ntA T R) := g1
                  have nT := hT.1.2.2.1
                  have nR := hR.1.2.2.1
                  obtain ⟨a1, a2, a3, -, -⟩ := ntA_ok nT nR h12'
                  have r1 := iso_rg hT.1.2.1
                  have r2 := iso_rg hR.1.2.1
                  have hv : nv (ntA T R) := ⟨a1, h12', a2, by
                    rw [a3]
                    show np_rg T.1 T.2.2.1 + np_rg R.1 R.2.2.1 + (T.2.1 + R.2.1) ≤ 6
                    omega⟩
                  refine w_cs1 (tc_keep (gN_net nH4 g2 (fun g hg => by unfold cP at hg; omega) ⟨_, g1, a2⟩ hN3) hq.1 g1 hv) ?_
                  rintro r y6 ⟨q0, q1, q2, ⟨Cs, os, q3, q4⟩, q5, -⟩
                  have c12 := hA.2.2.2.1
                  have d12 := hB.2.2.2.1
                  have hV3 := iso_app (k := A.flatten.length / 2) hT.2.1 hR.2.1 a1 h12' (fun p hp => by rw [ea]; exact ((hA.1.2 p).mp hp).1) (fun p hp => by have := ((hB.1.2 p).mp hp).1; omega)
                  exact w_some (Or.inr ⟨d, A, sg, e, B, sg', hd, rfl, hSt, he, rfl, hSt', Or.inr ⟨by omega, by omega, Or.inr ⟨rfl, q, hq, q0, q1, fr_tr f3 (fr_tr (fr_mono (fun g hg => by unfold cP at hg; unfold uP; omega) g2) q2), ⟨ntA T R, _, Cs, os, hv, pm1_A hT.2.2.1 hR.2.2.1, hV3, pl_app nT nR h12' hT.2.2.2 hR.2.2.2, q3, q4⟩, fun d' C' h1 h2 h3 => q5 d' C' h1 h2 (slC_fr g2 (fun q hq h9 => by unfold cW at hq; unfold cP at h9; omega) (sl3 d' C' h3))⟩⟩⟩)
              · rintro a v y4 ha ⟨h4, rfl⟩
                rcases h4 with h4 | h4
                · exact w_some (Or.inr ⟨d, A, sg, e, B, sg', hd, rfl, hSt, he, rfl, hSt', Or.inr ⟨by omega, by omega, Or.inl ⟨h4.1, hN3, f3, hC3, h4.2⟩⟩⟩)
                · exact absurd h4.1 ha
            · exact absurd (show (0 : Nat) = 4 from h3.1) (by decide)
          · rintro a y3 ha ⟨hN3, f3, hC3, sl3, h3⟩
            rcases h3 with h3 | h3
            · exact absurd h3.1 ha
            · exact w_some (Or.inr ⟨d, A, sg, e, B, sg', hd, rfl, hSt, he, rfl, hSt', Or.inl ⟨h3.1, hN3, f3, hC3, by omega⟩⟩)
      · rintro a y2 ha ⟨h2, rfl⟩
        rcases h2 with h2 | h2
        · exact w_some (Or.inl ⟨h2.1, hN, fr_rf, hC, Or.inr h2.2⟩)
        · exact absurd h2.1 ha
  · rintro a y1 ha ⟨h1, rfl⟩
    rcases h1 with h1 | h1
    · exact w_some (Or.inl ⟨h1.1, hN, fr_rf, hC, Or.inl h1.2⟩)
    · exact absurd h1.1 ha
end XCA
end
section
/-! 99zzzzzzzzzf.xrv -/
/-! exact calls of the reference: reverse -/
def tLL (t : Bool) (L : List (Nat × Nat)) : List (Nat × Nat) := if t then L.reverse else L
def rvX (τ : Nat → Bool) (A : rn_L) (m : Nat) : rn_L := (List.range m).map (fun k => tLL (τ k) (A.getD k []))
theorem rvX_s {τ : Nat → Bool} {A : rn_L} {m : Nat} : rvX τ A (m + 1) = rvX τ A m ++ [tLL (τ m) (A.getD m [])] := by
  unfold rvX
  rw [List.range_succ, List.map_append]
  rfl
theorem tLL_len {t : Bool} {L : List (Nat × Nat)} : (tLL t L).length = L.length := by
  unfold tLL
  split
  · exact List.length_reverse
  · rfl
theorem gD_len {A : rn_L} {m : Nat} (hm : m < A.length) : (A.getD m []).length = rn_b A (m + 1) - rn_b A m := by
  have hb := rnb_s hm
  rw [List.getD_eq_getElem?_getD, List.getElem?_eq_getElem hm]
  show (A[m]).length = _
  omega
theorem rvX_len {τ : Nat → Bool} {A : rn_L} : ∀ {m : Nat}, m ≤ A.length → (rvX τ A m).flatten.length = rn_b A m
  | 0, _ => rfl
  | m + 1, h => by
    rw [rvX_s, List.flatten_append, List.length_append, rvX_len (by omega)]
    show rn_b A m + ([tLL (τ m) (A.getD m [])].flatten).length = _
    have h2 := gD_len (show m < A.length by omega)
    have h3 := rn_b_mono A m
    rw [List.flatten_cons, List.flatten_nil, List.append_nil, tLL_len, h2]
    omega
theorem tLL_at {A : rn_L} {t : Bool} {m i v : Nat} (hm : m < A.length) (hi : i < rn_b A (m + 1) - rn_b A m) (hv : v = if t then rn_b A (m + 1) - 1 - i else rn_b A m + i) : (tLL t (A.getD m []))[i]? = some (vAt A v) := by
  have hl := gD_len hm
  cases t with
  | false =>
    have hv : v = rn_b A m + i := hv
    have := cmp_at hm (show rn_b A m ≤ v by omega) (by omega)
    rw [show v - rn_b A m = i by omega] at this
    exact this
  | true =>
    have hv : v = rn_b A (m + 1) - 1 - i := hv
    have := cmp_at hm (show rn_b A m ≤ v by omega) (by omega)
    show (A.getD m []).reverse[i]? = _
    rw [List.getElem?_reverse (by omega), ← this]
    congr 1
    omega
theorem rc_mem {A : rn_L} {v : Nat} (hv : v < A.flatten.length) : rn_c A v < A.length ∧ vAt A v ∈ A.getD (rn_c A v) [] := by
  obtain ⟨h1, h2, h3⟩ := rn_c_in A v hv
  exact ⟨h1, List.mem_of_getElem? (cmp_at h1 h2 h3)⟩
theorem rc_idx {A : rn_L} (hn : A.flatten.Nodup) {v : Nat} (hv : v < A.flatten.length) : cidx A (vAt A v) = rn_c A v := by
  obtain ⟨h1, h2⟩ := rc_mem hv
  rw [List.getD_eq_getElem?_getD, List.getElem?_eq_getElem h1] at h2
  exact cidx_of hn h1 h2
/-- which components turn -/
def tauC (x : Int32) (k : Nat) : Bool := decide (x = -1) || decide (x = nI k)
def sgT (τ : Nat → Bool) (A : rn_L) (sg : Nat → Bool) (x : Nat) : Bool := if (τ (cidx A (x, 0)) != τ (cidx A (x, 1))) = true then !sg x else sg x
def cokC (A : rn_L) (x : Int32) : Prop := x = -1 ∨ ∃ k, k < A.length ∧ x = nI k
theorem tLL_mem {t : Bool} {L : List (Nat × Nat)} {p : Nat × Nat} : p ∈ tLL t L ↔ p ∈ L := by
  unfold tLL
  split
  · exact List.mem_reverse
  · exact Iff.rfl
theorem rvX_perm {τ : Nat → Bool} {A : rn_L} : (rvX τ A A.length).flatten.Perm A.flatten := by
  have key : ∀ m, m ≤ A.length → (rvX τ A m).flatten.Perm (A.take m).flatten := by
    intro m
    induction m with
    | zero => intro _; exact List.Perm.refl _
    | succ m ih =>
      intro h
      rw [rvX_s, tk_snoc (show m < A.length by omega), List.flatten_append, List.flatten_append]
      refine (ih (by omega)).append ?_
      rw [List.flatten_cons, List.flatten_nil, List.append_nil, List.flatten_cons, List.flatten_nil, List.append_nil]
      unfold tLL
      split
      · exact List.reverse_perm _
      · exact List.Perm.refl _
  have := key A.length (Nat.le_refl _)
  rw [List.take_length] at this
  exact this
theorem wkF_perm {F G : List (Nat × Nat)} (h : F.Perm G) (hG : wkF G) : wkF F := ⟨h.nodup_iff.mpr hG.1, fun p hp => by
  obtain ⟨a1, a2, a3⟩ := hG.2 p (h.mem_iff.mp hp)
  exact ⟨a1, a2, h.mem_iff.mpr a3⟩⟩
theorem vis_two {A : rn_L} (hF : wkF A.flatten) {v : Nat} (hv : v < A.flatten.length) : ∃ v0 v1, v0 < A.flatten.length ∧ v1 < A.flatten.length ∧ vAt A v0 = (crs A v, 0) ∧ vAt A v1 = (crs A v, 1) ∧ mtf A v0 = v1 ∧ mtf A v1 = v0 ∧ ∀ u, u < A.flatten.length → crs A u = crs A v → u = v0 ∨ u = v1 := by
  have hd := wkF_ok hF
  have hm := vAt_mem hv
  have hu := hF.2 _ hm
  have both : (crs A v, 0) ∈ A.flatten ∧ (crs A v, 1) ∈ A.flatten := by
    have e : vAt A v = (crs A v, uns A v) := rfl
    rw [e] at hm hu
    have h2 : uns A v < 2 := hu.2.1
    have h3 : (crs A v, 1 - uns A v) ∈ A.flatten := hu.2.2
    rcases (show uns A v = 0 ∨ uns A v = 1 by omega) with h9 | h9
    · rw [h9] at hm h3
      exact ⟨hm, h3⟩
    · rw [h9] at hm h3
      exact ⟨h3, hm⟩
  obtain ⟨v0, a1, a2⟩ := mem_vAt both.1
  obtain ⟨v1, b1, b2⟩ := mem_vAt both.2
  have all : ∀ u, u < A.flatten.length → crs A u = crs A v → u = v0 ∨ u = v1 := fun u hu9 e => by
    have h2 : uns A u < 2 := (hF.2 _ (vAt_mem hu9)).2.1
    have eu : vAt A u = (crs A v, uns A u) := by rw [← e]; rfl
    rcases (show uns A u = 0 ∨ uns A u = 1 by omega) with h9 | h9
    · left
      rw [h9] at eu
      exact nodup_at hF.1 (vAt_of hu9) (by rw [vAt_of a1, a2, eu])
    · right
      rw [h9] at eu
      exact nodup_at hF.1 (vAt_of hu9) (by rw [vAt_of b1, b2, eu])
  have c0 : crs A v0 = crs A v := by show (vAt A v0).1 = _; rw [a2]
  have c1 : crs A v1 = crs A v := by show (vAt A v1).1 = _; rw [b2]
  refine ⟨v0, v1, a1, b1, a2, b2, ?_, ?_, all⟩
  · exact (all _ (mtf_lt hd a1) ((crs_mtf hd a1).trans c0)).resolve_left (mtf_ne hd a1)
  · exact (all _ (mtf_lt hd b1) ((crs_mtf hd b1).trans c1)).resolve_right (mtf_ne hd b1)
theorem sgT_fl {A : rn_L} {c : Int32} (hF : wkF A.flatten) (h39 : A.length ≤ 39) {v : Nat} (hv : v < A.flatten.length) : (∃ u, u < A.flatten.length ∧ crs A u = crs A v ∧ c ≠ -1 ∧ c = nI (rn_c A u) ∧ rn_c A (mtf A u) ≠ rn_c A u) ↔ (tauC c (cidx A (crs A v, 0)) != tauC c (cidx A (crs A v, 1))) = true := by
  obtain ⟨v0, v1, a1, b1, a2, b2, m0, m1, all⟩ := vis_two hF hv
  have i0 := rc_idx hF.1 a1
  have i1 := rc_idx hF.1 b1
  rw [a2] at i0
  rw [b2] at i1
  rw [i0, i1]
  have l0 := (rc_mem a1).1
  have l1 := (rc_mem b1).1
  have c0 : crs A v0 = crs A v := by show (vAt A v0).1 = _; rw [a2]
  have c1 : crs A v1 = crs A v := by show (vAt A v1).1 = _; rw [b2]
  have tt : ∀ k, c ≠ -1 → tauC c k = decide (c = nI k) := fun k h9 => by
    unfold tauC
    rw [decide_eq_false h9, Bool.false_or]
  constructor
  · rintro ⟨u, u1, u2, u3, u4, u5⟩
    rcases all u u1 u2 with rfl | rfl
    · rw [m0] at u5
      rw [tt _ u3, tt _ u3, decide_eq_true u4, decide_eq_false (fun h9 => u5 (nI_inj9 (by omega) (by omega) (h9.symm.trans u4)))]
      rfl
    · rw [m1] at u5
      rw [tt _ u3, tt _ u3, decide_eq_true u4, decide_eq_false (fun h9 => u5 (nI_inj9 (by omega) (by omega) (h9.symm.trans u4)))]
      rfl
  · intro hne
    have u3 : c ≠ -1 := fun h9 => by
      unfold tauC at hne
      rw [decide_eq_true h9] at hne
      cases hne
    rw [tt _ u3, tt _ u3] at hne
    by_cases e0 : c = nI (rn_c A v0)
    · refine ⟨v0, a1, c0, u3, e0, fun e => ?_⟩
      rw [m0] at e
      rw [e, decide_eq_true e0] at hne
      cases hne
    · by_cases e1 : c = nI (rn_c A v1)
      · refine ⟨v1, b1, c1, u3, e1, fun e => ?_⟩
        rw [m1] at e
        rw [e, decide_eq_true e1] at hne
        cases hne
      · rw [decide_eq_false e0, decide_eq_false e1] at hne
        cases hne
section XV
variable {X : (Nat → Nat → Int32) → Prop} {z : ow_MS} {St : plT}
theorem xq_reverse {x c : Int32} (h : gI X z) (hR : relR z St) : Te (fun K => qe_X13_reverse K x c z) (fun r => rFl X z 1 r ∧ (∀ d, d < 40 → x = nI d → St d = none) ∨ ∃ d A sg, d < 40 ∧ x = nI d ∧ St d = some (A, sg) ∧ (rFl X z 1 r ∧ ¬ cokC A c ∨ cokC A c ∧ (rFl X z 2 r ∧ allF St ∨ ∃ e, lstF St e ∧ rKp X z e (rvX (tauC c) A A.length) (sgT (tauC c) A sg) r))) := by
  let Q : Int32 × ow_MS → Prop := fun r => rFl X z 1 r ∧ (∀ d, d < 40 → x = nI d → St d = none) ∨ ∃ d A sg, d < 40 ∧ x = nI d ∧ St d = some (A, sg) ∧ (rFl X z 1 r ∧ ¬ cokC A c ∨ cokC A c ∧ (rFl X z 2 r ∧ allF St ∨ ∃ e, lstF St e ∧ rKp X z e (rvX (tauC c) A A.length) (sgT (tauC c) A sg) r))
  have h1 := gI_1 (c := 0) h
  have hR1 := relR_1 (c := 0) hR
  refine e_X13_reverse ?_
  refine u_X13_reverse_0 ?_; unfold qm_X13_reverse_0
  refine w_wrF (w_hasX hR1 (fun h0 => w_ifT rfl (w_mono (w_failX h1 fr_1) (fun r hr => Or.inl ⟨hr, h0⟩))) (fun e A sg he hx hs hv hne => w_ifF (by decide) ?_))
  subst hx
  refine w_cs0 (to_open pn1 he hv) (fun z2 ⟨o1, f1⟩ => ?_)
  have h2 : gI X z2 := gI_net pn1 f1 (fun g hg => by omega) h1
  have hl := o1.len
  have hd := wkF_ok o1.wk
  have hC := o1.2.2.2
  have f02 : fr rPs z z2 := fr_tr fr_1 (fr_mono (fun g hg => Or.inr (by unfold rSc; omega)) f1)
  have hR2 : relR z2 St := relR_fr f1 (by omega) hR1
  have z21 : z2.1 1 = 0 := by rw [(f1 1 (by omega)).1]; exact po_usF_at
  have fin : ∀ {r}, (rFl X z 1 r ∧ ¬ cokC A c ∨ cokC A c ∧ (rFl X z 2 r ∧ allF St ∨ ∃ e, lstF St e ∧ rKp X z e (rvX (tauC c) A A.length) (sgT (tauC c) A sg) r)) → Q r := fun hr => Or.inr ⟨e, A, sg, he, rfl, hs, hr⟩
  have c1 : ¬ cokC A c → Tt (fun K k => q_X13_reverse K k 1 (nI e) c 0 0 0 0 0 z2) Q := by
    intro hno
    refine u_X13_reverse_1 ?_; unfold qm_X13_reverse_1
    exact w_mono (w_failX (k := 1) h2 f02) (fun r hr => fin (Or.inl ⟨hr, hno⟩))
  refine w_if (fun h9 => c1 (fun hk => ?_)) (fun h8 => w_rdF (lk_C o1.1) (w_if (fun h9 => ?_) (fun h9 => c1 (fun hk => ?_))))
  · rcases hk with rfl | ⟨k, hk, rfl⟩
    · exact absurd h9 (by decide)
    · exact absurd (Int32.lt_trans h9 (show (-1 : Int32) < 0 by decide)) (nI_pos (by omega))
  rotate_left
  · rcases hk with rfl | ⟨k, hk, rfl⟩
    · exact h9 (Int32.lt_of_lt_of_le (show (-1 : Int32) < 0 by decide) (Int32.not_lt.mp (fun h7 => nI_pos (by omega) h7)))
    · exact h9 ((nI_ltI (by omega) (by omega)).mpr hk)
  have hcok : cokC A c := by
    by_cases e0 : c < 0
    · left
      have a1 : ¬ c.toInt < (-1 : Int32).toInt := fun h7 => h8 (Int32.lt_iff_toInt_lt.mpr h7)
      have a2 : c.toInt < (0 : Int32).toInt := Int32.lt_iff_toInt_lt.mp e0
      have a3 : (-1 : Int32).toInt = -1 := by decide
      have a4 : (0 : Int32).toInt = 0 := by decide
      refine Int32.toInt_inj.mp ?_
      omega
    · obtain ⟨k, k31, rfl⟩ := nI_of e0
      exact Or.inr ⟨k, (nI_ltI k31 (by omega)).mp h9, rfl⟩
  refine w_freeX hR2 (fun hall => w_ifT rfl (w_mono (w_failX (k := 2) h2 f02) (fun r hr => fin (Or.inr ⟨hcok, Or.inl ⟨hr, hall⟩⟩)))) (fun f hfr => w_ifF (rn_neg1 (by have := hfr.1; omega)) (w_cs0 (tn_clear pn3) (fun z3 ⟨b3, f3⟩ => w_cs0 (tn_signs pn3 pn1 (by omega)) (fun z4 ⟨f4, s4⟩ => ?_))))
  -- signs changed so far
  let fl : (Nat → Prop) → Nat → Prop := fun pr k => ∃ v, v < A.flatten.length ∧ pr v ∧ crs A v = k ∧ c ≠ -1 ∧ c = nI (rn_c A v) ∧ rn_c A (mtf A v) ≠ rn_c A v
  let J : (Nat → Prop) → ow_MS → Prop := fun pr y => fr (fun g => 3001 ≤ g ∧ g ≤ 3006) z2 y ∧ ∀ v, v < A.flatten.length → (fl pr (crs A v) → y.2.1 3006 (crs A v) = 0 - z2.2.1 1006 (crs A v)) ∧ (¬ fl pr (crs A v) → y.2.1 3006 (crs A v) = z2.2.1 1006 (crs A v))
  have oJ : ∀ {pr : Nat → Prop} {y : ow_MS}, J pr y → oNet y 1000 A sg := fun hj => oNet_fr hj.1 (fun g hg => by omega) o1
  have Jeq : ∀ {pr pr' : Nat → Prop} {y : ow_MS}, (∀ j, pr j ↔ pr' j) → J pr y → J pr' y := fun hpp hj => by
    have : ∀ k, fl _ k ↔ fl _ k := fun k => ⟨fun ⟨v, a1, a2, a3⟩ => ⟨v, a1, (hpp v).mp a2, a3⟩, fun ⟨v, a1, a2, a3⟩ => ⟨v, a1, (hpp v).mpr a2, a3⟩⟩
    exact ⟨hj.1, fun v hv9 => ⟨fun h7 => (hj.2 v hv9).1 ((this _).mpr h7), fun h7 => (hj.2 v hv9).2 (fun h6 => h7 ((this _).mp h6))⟩⟩
  have Jfr : ∀ {pr : Nat → Prop} {y y2 : ow_MS} {P : Nat → Prop}, (∀ g, P g → 3001 ≤ g ∧ g ≤ 3005) → fr P y y2 → J pr y → J pr y2 := fun hP hf hj => ⟨fr_tr hj.1 (fr_mono (fun g hg => by have := hP g hg; omega) hf), fun v hv9 => by
    rw [(hf 3006 (fun h7 => by have := hP _ h7; omega)).2.1]
    exact hj.2 v hv9⟩
  have out : ∀ (k m : Nat) (y : ow_MS), m + k = A.length → J (fun j => j < rn_b A m) y → rn_At y 3000 (rvX (tauC c) A m) [] → Tt (fun K i => q_X13_reverse K i 2 (nI e) c (nI m) 0 0 0 0 y) Q := by
    intro k
    induction k with
    | zero =>
      intro m y hm hj hb
      have hm2 : m = A.length := by omega
      rw [hm2] at hb
      have hlr := rvX_len (τ := tauC c) (A := A) (Nat.le_refl _)
      rw [rn_b_len] at hlr
      have f0y : fr rPs z y := fr_tr f02 (fr_mono (fun g hg => Or.inr (by unfold rSc; omega)) hj.1)
      refine u_X13_reverse_2 ?_; unfold qm_X13_reverse_2
      refine w_rdF (lk_C (oJ hj).1) (w_leT (by omega) (by omega) (w_mono (w_keepX (z0 := z) (sg2 := sgT (tauC c) A sg) (gI_net pn3 hj.1 (fun g hg => by omega) h2) (relR_fr hj.1 (by omega) hR2) hfr (by rw [(hj.1 1 (by omega)).1]; exact z21) f0y hb (fun p hp => ?_) (wkF_perm rvX_perm o1.wk) (by rw [hlr]; exact hl) (by unfold rvX; rw [List.length_map, List.length_range]; exact hC)) (fun r hr => fin (Or.inr ⟨hcok, Or.inr ⟨f, hfr, hr⟩⟩))))
      have hpA := rvX_perm.mem_iff.mp hp
      obtain ⟨v, v1, v2⟩ := mem_vAt hpA
      have hcv : crs A v = p.1 := by unfold crs; rw [v2]
      have hsv := o1.2.1 p hpA
      have hj2 := hj.2 v v1
      rw [hcv] at hj2
      have hm1 := mtf_lt hd v1
      have hm3 := crs_mtf hd v1
      have hm4 := mtf_mtf hd v1
      have key := sgT_fl (c := c) o1.wk (by omega) v1
      rw [hcv] at key
      show y.2.1 3006 p.1 = if sgT (tauC c) A sg p.1 = true then -1 else 1
      have hsv : z2.2.1 1006 p.1 = if sg p.1 then -1 else 1 := hsv
      unfold sgT
      by_cases hT : (tauC c (cidx A (p.1, 0)) != tauC c (cidx A (p.1, 1))) = true
      · rw [if_pos hT]
        obtain ⟨u, u1, u2, u3⟩ := key.mpr hT
        rw [hj2.1 ⟨u, u1, by have := rn_b_len A; rw [← hm2] at this; omega, u2, u3⟩, hsv]
        cases sg p.1 <;> rfl
      · rw [if_neg hT, hj2.2 (fun ⟨u, u1, _, u2, u3⟩ => hT (key.mp ⟨u, u1, u2, u3⟩)), hsv]
    | succ k ih =>
      intro m y hm hj hb
      have hmC : m < A.length := by omega
      have hmono := rn_b_mono A m
      have hble := rn_b_le A (m + 1)
      have hlm := rvX_len (τ := tauC c) (show m ≤ A.length by omega)
      have inn : ∀ (t : Bool), t = tauC c m → ∀ (k i : Nat) (y : ow_MS), i + k = rlen A m → J (fun j => j < rn_b A m ∨ (if t then rn_b A (m + 1) ≤ j + i ∧ j < rn_b A (m + 1) else rn_b A m ≤ j ∧ j < rn_b A m + i)) y → rn_At y 3000 (rvX (tauC c) A m) ((tLL t (A.getD m [])).take i) → Tt (fun K i9 => q_X13_reverse K i9 5 (nI e) c (nI m) (bZ t) (nI i) 0 0 y) Q := by
        intro t ht k
        unfold rlen
        induction k with
        | zero =>
          intro i y hi hj hb
          have o2 := oJ hj
          have etl : (tLL t (A.getD m [])).take i = tLL t (A.getD m []) := by
            have := gD_len hmC
            rw [show i = (tLL t (A.getD m [])).length by rw [tLL_len]; omega, List.take_length]
          rw [etl] at hb
          refine u_X13_reverse_5 ?_; unfold qm_X13_reverse_5
          rw [nI_1]
          refine w_rdI (pl3 pn1) rfl (by omega) (lk_b o2.1 (by omega)) (w_rdI (pl3 pn1) rfl (by omega) (lk_b o2.1 (by omega)) ?_)
          rw [pk_sub hmono]
          refine w_leT (by omega) (by omega) (w_cs0 (tn_end pn3 hb (by unfold rvX; rw [List.length_map, List.length_range]; omega)) (fun y2 ⟨g1, g2⟩ => ?_))
          refine ih (m + 1) y2 (by omega) (Jeq (fun j => ?_) (Jfr (fun g hg => by omega) g2 hj)) ?_
          · cases t
            · simp only [Bool.false_eq_true, if_false]
              omega
            · simp only [if_true]
              omega
          · rw [rvX_s, ← ht]
            exact g1
        | succ k ihk =>
          intro i y hi hj hb
          have o2 := oJ hj
          have hv6 : ∀ v, v < A.flatten.length → rn_b A m ≤ v → v < rn_b A (m + 1) → (v = if t then rn_b A (m + 1) - 1 - i else rn_b A m + i) → Tt (fun K i9 => q_X13_reverse K i9 6 (nI e) c (nI m) (bZ t) (nI i) 0 (nI v) y) Q := by
            intro v hv9 hvb hvb2 hve
            have hml := mtf_lt hd hv9
            have hcm : rn_c A v = m := rn_c_of A m v hvb hvb2
            have hat := tLL_at hmC (show i < rn_b A (m + 1) - rn_b A m by omega) hve
            have hpr : ∀ j, (j < rn_b A m ∨ (if t then rn_b A (m + 1) ≤ j + (i + 1) ∧ j < rn_b A (m + 1) else rn_b A m ≤ j ∧ j < rn_b A m + (i + 1))) ↔ (j < rn_b A m ∨ (if t then rn_b A (m + 1) ≤ j + i ∧ j < rn_b A (m + 1) else rn_b A m ≤ j ∧ j < rn_b A m + i)) ∨ j = v := fun j => by
              cases t
              · simp only [Bool.false_eq_true, if_false] at hve ⊢
                omega
              · simp only [if_true] at hve ⊢
                omega
            have c7 : ∀ (y2 : ow_MS), J (fun j => (j < rn_b A m ∨ (if t then rn_b A (m + 1) ≤ j + i ∧ j < rn_b A (m + 1) else rn_b A m ≤ j ∧ j < rn_b A m + i)) ∨ j = v) y2 → rn_At y2 3000 (rvX (tauC c) A m) ((tLL t (A.getD m [])).take (i + 1)) → Tt (fun K i9 => q_X13_reverse K i9 7 (nI e) c (nI m) (bZ t) (nI i) (nI v) 0 y2) Q := by
              intro y2 hj2 hb2
              refine u_X13_reverse_7 ?_; unfold qm_X13_reverse_7
              rw [nI_1]
              exact ihk (i + 1) y2 (by omega) (Jeq (fun j => (hpr j).symm) hj2) hb2
            -- no sign changes here
            have same : ∀ {y2 : ow_MS}, J (fun j => j < rn_b A m ∨ (if t then rn_b A (m + 1) ≤ j + i ∧ j < rn_b A (m + 1) else rn_b A m ≤ j ∧ j < rn_b A m + i)) y2 → ¬ (c ≠ -1 ∧ c = nI (rn_c A v) ∧ rn_c A (mtf A v) ≠ rn_c A v) → J (fun j => (j < rn_b A m ∨ (if t then rn_b A (m + 1) ≤ j + i ∧ j < rn_b A (m + 1) else rn_b A m ≤ j ∧ j < rn_b A m + i)) ∨ j = v) y2 := fun hj2 hno => ⟨hj2.1, fun v9 hv8 => ⟨fun ⟨u, u1, u2, u3, u4⟩ => (hj2.2 v9 hv8).1 (by
              rcases u2 with u2 | u2
              · exact ⟨u, u1, u2, u3, u4⟩
              · rw [u2] at u4
                exact absurd u4 hno), fun h7 => (hj2.2 v9 hv8).2 (fun ⟨u, u1, u2, u3⟩ => h7 ⟨u, u1, Or.inl u2, u3⟩)⟩⟩
            refine u_X13_reverse_6 ?_; unfold qm_X13_reverse_6
            refine w_rdI (pl4 pn1) rfl (by omega) (lk_cu o2.1 hv9).1 (w_rdI (pl5 pn1) rfl (by omega) (lk_cu o2.1 hv9).2 (w_cs0 (tn_add pn3 hb (by rw [List.length_append, hlm, List.length_take]; omega)) (fun y2 ⟨g1, g2⟩ => ?_)))
            have hb2 : rn_At y2 3000 (rvX (tauC c) A m) ((tLL t (A.getD m [])).take (i + 1)) := by
              rw [take_s hat]
              exact g1
            have hj2 := Jfr (fun g hg => by omega) g2 hj
            have o3 := oJ hj2
            refine w_if (fun h7 => c7 y2 (same hj2 (fun h6 => ?_)) hb2) (fun h7 => w_if (fun h6 => c7 y2 (same hj2 (fun h5 => h5.1 h6)) hb2) (fun h6 => w_rdI (pl7 pn1) rfl (by omega) (lk_m hd o3.1 hv9) (w_rdI (pl8 pn1) rfl (by omega) (lk_c o3.1 hml) (w_if (fun h5 => c7 y2 (same hj2 (fun h4 => ?_)) hb2) (fun h5 => ?_)))))
            · -- t is false
              have : t = false := by
                cases t
                · rfl
                · exact absurd h7 (by decide)
              rw [this] at ht
              unfold tauC at ht
              rw [← hcm, decide_eq_true h6.2.1, Bool.or_true] at ht
              cases ht
            · exact h4.2.2 ((nI_inj9 (by have := (rn_c_in A _ hml).1; omega) (by omega) h5).trans hcm.symm)
            · obtain ⟨x1, x2, x3⟩ := o3.cx hv9
              have tt : t = true := by
                cases t
                · exact absurd rfl h7
                · rfl
              have hcn : c = nI (rn_c A v) := by
                rw [tt] at ht
                unfold tauC at ht
                rw [decide_eq_false h6, Bool.false_or] at ht
                rw [hcm]
                exact of_decide_eq_true ht.symm
              have hdif : rn_c A (mtf A v) ≠ rn_c A v := fun h4 => h5 (by rw [h4, hcm])
              have e6 : y2.2.1 1006 (crs A v) = z2.2.1 1006 (crs A v) := by rw [(hj2.1 1006 (by omega)).2.1]
              refine w_rdI (pl4 pn1) rfl (by omega) (lk_cu o3.1 hv9).1 (w_rdI (pl4 pn1) rfl (by omega) (lk_cu o3.1 hv9).1 (w_rdI (pl6 pn1) rfl (by omega) e6 (w_wrI (pl6 pn3) rfl (by omega) (c7 _ ⟨fr_I2 hj2.1 (by omega), fun v9 hv8 => ?_⟩ (fr_At (P := fun g => g = 3006) (fr_I rfl) (fun g hg => by omega) hb2)))))
              by_cases hce : crs A v9 = crs A v
              · rw [hce]
                refine ⟨fun _ => po_usI_at, fun h4 => absurd ⟨v, hv9, Or.inr rfl, rfl, h6, hcn, hdif⟩ h4⟩
              · show (fl _ _ → (usI y2 3006 (crs A v) _).2.1 3006 (crs A v9) = _) ∧ (_ → (usI y2 3006 (crs A v) _).2.1 3006 (crs A v9) = _)
                rw [po_usI_ne hce]
                refine ⟨fun ⟨u, u1, u2, u3, u4⟩ => (hj2.2 v9 hv8).1 ?_, fun h4 => (hj2.2 v9 hv8).2 (fun ⟨u, u1, u2, u3⟩ => h4 ⟨u, u1, Or.inl u2, u3⟩)⟩
                rcases u2 with u2 | u2
                · exact ⟨u, u1, u2, u3, u4⟩
                · rw [u2] at u3
                  exact absurd u3.symm hce
          refine u_X13_reverse_5 ?_; unfold qm_X13_reverse_5
          rw [nI_1]
          refine w_rdI (pl3 pn1) rfl (by omega) (lk_b o2.1 (by omega)) (w_rdI (pl3 pn1) rfl (by omega) (lk_b o2.1 (by omega)) ?_)
          rw [pk_sub hmono]
          refine w_leF (by omega) (by omega) ?_
          cases t with
          | false =>
            refine w_ifT rfl (w_rdI (pl3 pn1) rfl (by omega) (lk_b o2.1 (by omega)) ?_)
            rw [nI_add]
            exact hv6 _ (by omega) (by omega) (by omega) rfl
          | true =>
            refine w_ifF (by decide) (w_rdI (pl3 pn1) rfl (by omega) (lk_b o2.1 (by omega)) ?_)
            rw [show nI (rn_b A (m + 1)) - 1 - nI i = nI (rn_b A (m + 1) - 1 - i) from by
              rw [show nI (rn_b A (m + 1)) - 1 = nI (rn_b A (m + 1) - 1) from pk_sub (b := 1) (by omega)]
              exact pk_sub (by omega)]
            exact hv6 _ (by omega) (by omega) (by omega) rfl
      have c4 : ∀ t : Bool, t = tauC c m → Tt (fun K i9 => q_X13_reverse K i9 4 (nI e) c (nI m) 0 0 0 (bZ t) y) Q := by
        intro t ht
        refine u_X13_reverse_4 ?_; unfold qm_X13_reverse_4
        refine inn t ht (rlen A m) 0 y (by omega) (Jeq (fun j => ?_) hj) (by rw [List.take_zero]; exact hb)
        cases t
        · simp only [Bool.false_eq_true, if_false]
          omega
        · simp only [if_true]
          omega
      have c3 : tauC c m = true → Tt (fun K i9 => q_X13_reverse K i9 3 (nI e) c (nI m) 0 0 0 0 y) Q := by
        intro ht
        refine u_X13_reverse_3 ?_; unfold qm_X13_reverse_3
        exact c4 true ht.symm
      refine u_X13_reverse_2 ?_; unfold qm_X13_reverse_2
      refine w_rdF (lk_C (oJ hj).1) (w_leF (by omega) (by omega) (w_if (fun h7 => c3 ?_) (fun h7 => w_if (fun h6 => c3 ?_) (fun h6 => c4 false ?_))))
      · unfold tauC
        rw [decide_eq_true h7]
        rfl
      · unfold tauC
        rw [decide_eq_true h6, Bool.or_true]
      · unfold tauC
        rw [decide_eq_false h7, decide_eq_false h6]
        rfl
  refine out A.length 0 z4 (by omega) ⟨fr_tr (fr_mono (fun g hg => by omega) f3) (fr_mono (fun g hg => by omega) f4), fun v hv9 => ⟨fun ⟨u, _, u2, _⟩ => absurd u2 (by rw [rn_b0]; omega), fun _ => ?_⟩⟩ (fr_At f4 (fun g hg => by omega) b3)
  have := s4 (crs A v) (by have := (o1.cx hv9).1; omega)
  rw [show z4.2.1 3006 (crs A v) = z3.2.1 1006 (crs A v) from this, (f3 1006 (by omega)).2.1]
end XV
end
