section
/-! 99zzzzzzzzz.xrm -/
/-! exact calls of the reference: drop, alike, mirror, change -/
section XM
variable {X : (Nat → Nat → Int32) → Prop} {z : ow_MS} {St : plT}
theorem relR_1 {c : Int32} (h : relR z St) : relR (usF z 1 c) St := relR_fr (P := fun g => g = 1) (fr_F rfl) (by decide) h
theorem fr_1 {c : Int32} : fr rPs z (usF z 1 c) := fr_mono (fun g hg => Or.inl hg) (fr_F (P := fun g => g = 1) rfl)
theorem xq_drop {x : Int32} (h : gI X z) (hR : relR z St) : Te (fun K => qe_X13_drop K x z) (fun r => gI X r.2 ∧ r.2.1 1 = 0 ∧ fr rPk z r.2 ∧ ((r.1 = 0 ∧ (∀ d, d < 40 → x = nI d → St d = none) ∧ relR r.2 St) ∨ r.1 = 1 ∧ ∃ d A sg, d < 40 ∧ x = nI d ∧ St d = some (A, sg) ∧ relR r.2 (upP St d none))) := by
  have h1 := gI_1 (c := 0) h
  have hR1 := relR_1 (c := 0) hR
  refine e_X13_drop ?_; unfold qm_X13_drop_0
  refine w_wrF (w_cs1 (xr_has hR1) (fun a z1 ⟨e, h9⟩ => ?_))
  have e : z1 = usF z 1 0 := e
  subst e
  have f1 : fr rPk z (usF z 1 0) := fr_mono (fun g hg => Or.inl hg) (fr_F (P := fun g => g = 1) rfl)
  rcases h9 with ⟨h9, h8⟩ | ⟨h9, d, A, sg, hd, rfl, hs⟩
  · have h9 : a = 0 := h9
    exact w_ifT h9 (w_okZ (Or.inl h9) (w_some ⟨h1, po_usF_at, f1, Or.inl ⟨h9, h8, hR1⟩⟩))
  · have h9 : a = 1 := h9
    rw [show (32 : Int32) * nI d = nI (32 * d) from pk_mul 32 d]
    refine w_ifF (by rw [h9]; decide) (w_wrI ml12 rfl (by omega) (w_okZ (Or.inr h9) (w_some ⟨?_, (show (usF z 1 0).1 1 = 0 from po_usF_at), fr_I2 f1 (Or.inr (Or.inl rfl)), Or.inr ⟨h9, d, A, sg, hd, rfl, hs, fun e he => ?_⟩⟩)))
    · exact gI_rows (P := fun g => g = 12) (fr_I rfl) (fun g hg => Or.inl hg) (gRows_put (d := d) (dRow_0 po_usI_at) (fun i hi => po_usI_ne (by omega)) h1.2.1) h1
    · by_cases ed : e = d
      · subst ed
        refine ⟨fun _ => po_usI_at, fun B sb h7 => ?_⟩
        rw [show upP St e none e = none from if_pos rfl] at h7
        cases h7
      · rw [show upP St d none e = St e from if_neg ed]
        obtain ⟨k1, k2⟩ := hR1 e he
        refine ⟨fun h7 => by rw [po_usI_ne (by omega)]; exact k1 h7, fun B sb h7 => ?_⟩
        obtain ⟨q1, ⟨q2, q3, q4, q5⟩, q6⟩ := k2 B sb h7
        refine ⟨q1, ⟨q2, q3, by rw [po_usI_ne (by omega)]; exact q4, fun k t hk => ?_⟩, q6⟩
        have := (List.getElem?_eq_some_iff.mp hk).1
        rw [po_usI_ne (by omega)]
        exact q5 k t hk
theorem xq_mirror {x : Int32} (h : gI X z) (hR : relR z St) : Te (fun K => qe_X13_mirror K x z) (fun r => rFl X z 1 r ∧ (∀ d, d < 40 → x = nI d → St d = none) ∨ ∃ d A sg, d < 40 ∧ x = nI d ∧ St d = some (A, sg) ∧ (rFl X z 2 r ∧ allF St ∨ ∃ e, lstF St e ∧ rKp X z e (A.map (List.map (flp (fun _ => true)))) (fun y => !sg y) r)) := by
  let Q : Int32 × ow_MS → Prop := fun r => rFl X z 1 r ∧ (∀ d, d < 40 → x = nI d → St d = none) ∨ ∃ d A sg, d < 40 ∧ x = nI d ∧ St d = some (A, sg) ∧ (rFl X z 2 r ∧ allF St ∨ ∃ e, lstF St e ∧ rKp X z e (A.map (List.map (flp (fun _ => true)))) (fun y => !sg y) r)
  have h1 := gI_1 (c := 0) h
  have hR1 := relR_1 (c := 0) hR
  refine e_X13_mirror ?_
  refine u_X13_mirror_0 ?_; unfold qm_X13_mirror_0
  refine w_wrF (w_hasX hR1 (fun h0 => w_ifT rfl (w_mono (w_failX h1 fr_1) (fun r hr => Or.inl ⟨hr, h0⟩))) (fun e A sg he hx hs hv hne => w_ifF (by decide) (w_freeX hR1 (fun h0 => w_ifT rfl (w_mono (w_failX (k := 2) h1 fr_1) (fun r hr => Or.inr ⟨e, A, sg, he, hx, hs, Or.inl ⟨hr, h0⟩⟩))) (fun f hfr => w_ifF (rn_neg1 (by have := hfr.1; omega)) ?_))))
  subst hx
  refine w_cs0 (to_open pn3 he hv) (fun z2 ⟨o1, f1⟩ => ?_)
  have h2 : gI X z2 := gI_net pn3 f1 (fun g hg => by omega) h1
  have hl := o1.len
  have fs : ∀ {y : ow_MS}, fr (fun g => 3001 ≤ g ∧ g ≤ 3011) (usF z 1 0) y → fr rPs z y := fun hf => fr_tr fr_1 (fr_mono (fun g hg => Or.inr (by unfold rSc; omega)) hf)
  have c2 : ∀ (k x : Nat) (z3 : ow_MS), x + k = 40 → fr (fun g => g = 3005 ∨ g = 3006) z2 z3 → (∀ v, v < A.flatten.length → z3.2.1 3005 v = nI (1 - uns A v)) → (∀ y, y < x → z3.2.1 3006 y = 0 - z2.2.1 3006 y) → (∀ y, x ≤ y → z3.2.1 3006 y = z2.2.1 3006 y) → Tt (fun K i => q_X13_mirror K i 2 (nI e) (nI x) z3) Q := by
    intro k
    induction k with
    | zero =>
      intro x z3 hx hf hu hs2 hs3
      have ff : fr (fun g => 3001 ≤ g ∧ g ≤ 3011) (usF z 1 0) z3 := fr_tr f1 (fr_mono (fun g hg => by omega) hf)
      have hA : rn_At z3 3000 (A.map (List.map (flp (fun _ => true)))) [] := At_map o1.1.1 (hf 3001 (by omega)).1 (hf 3002 (by omega)).1 (hf 3003 (by omega)).2.1 (fun v hv9 => ⟨by rw [(hf 3004 (by omega)).2.1, flp_1]; exact (lk_cu o1.1 hv9).1, by rw [flp_2]; exact hu v hv9⟩)
      refine u_X13_mirror_2 ?_; unfold qm_X13_mirror_2
      refine w_leT (a := 40) (by omega) (by omega) (w_mono (w_keepX (z0 := z) (sg2 := fun y => !sg y) (gI_net pn3 hf (fun g hg => by omega) h2) (relR_fr ff (by omega) hR1) hfr (by rw [(ff 1 (by omega)).1]; exact po_usF_at) (fs ff) hA (fun p hp => ?_) (by rw [fl_map2]; exact wkF_flp o1.wk) (by rw [fl_map2, List.length_map]; exact hl) (by rw [List.length_map]; exact o1.2.2.2)) (fun r hr => Or.inr ⟨e, A, sg, he, rfl, hs, Or.inr ⟨f, hfr, hr⟩⟩))
      rw [fl_map2] at hp
      obtain ⟨q, hq, e9⟩ := List.mem_map.mp hp
      rw [← e9, flp_1]
      have hq40 := (o1.wk.2 q hq).1
      show z3.2.1 3006 q.1 = if (!sg q.1) = true then -1 else 1
      rw [hs2 q.1 (by omega), show z2.2.1 3006 q.1 = _ from o1.2.1 q hq]
      cases sg q.1 <;> rfl
    | succ k ih =>
      intro x z3 hx hf hu hs2 hs3
      refine u_X13_mirror_2 ?_; unfold qm_X13_mirror_2
      refine w_leF (a := 40) (by omega) (by omega) (w_rdI (pl6 pn3) rfl (by omega) (hs3 x (by omega)) (w_wrI (pl6 pn3) rfl (by omega) ?_))
      rw [nI_1]
      refine ih (x + 1) _ (by omega) (fr_I2 hf (Or.inr rfl)) (fun v hv9 => rd_ot (by omega) (hu v hv9)) (fun y hy => ?_) (fun y hy => rd_ne (by omega) (hs3 y (by omega)))
      by_cases hyx : y = x
      · rw [hyx, po_usI_at]
      · exact rd_ne hyx (hs2 y (by omega))
  have c1 : ∀ (k v : Nat) (z3 : ow_MS), v + k = A.flatten.length → fr (fun g => g = 3005) z2 z3 → (∀ w, w < v → z3.2.1 3005 w = nI (1 - uns A w)) → (∀ w, v ≤ w → z3.2.1 3005 w = z2.2.1 3005 w) → Tt (fun K i => q_X13_mirror K i 1 (nI e) (nI v) z3) Q := by
    intro k
    induction k with
    | zero =>
      intro v z3 hv9 hf hu hu2
      refine u_X13_mirror_1 ?_; unfold qm_X13_mirror_1
      exact w_rdF (x := nI A.flatten.length) (by rw [(hf 3001 (by omega)).1]; exact o1.1.V) (w_leT (by omega) (by omega) (c2 40 0 z3 (by omega) (fr_mono (fun g hg => Or.inl hg) hf) (fun w hw => hu w (by omega)) (fun y hy => by omega) (fun y _ => by rw [(hf 3006 (by omega)).2.1])))
    | succ k ih =>
      intro v z3 hv9 hf hu hu2
      have hvl : v < A.flatten.length := by omega
      have hu9 := (o1.cx hvl).2.1
      refine u_X13_mirror_1 ?_; unfold qm_X13_mirror_1
      refine w_rdF (x := nI A.flatten.length) (by rw [(hf 3001 (by omega)).1]; exact o1.1.V) (w_leF (by omega) hvl (w_rdI (pl5 pn3) rfl (by omega) ((hu2 v (Nat.le_refl _)).trans (lk_cu o1.1 hvl).2) (w_wrI (pl5 pn3) rfl (by omega) ?_)))
      rw [nI_1, show (1 : Int32) - nI (uns A v) = nI (1 - uns A v) from pk_sub (a := 1) (by omega)]
      refine ih (v + 1) _ (by omega) (fr_I2 hf rfl) (fun w hw => ?_) (fun w hw => rd_ne (by omega) (hu2 w (by omega)))
      by_cases hwv : w = v
      · rw [hwv, po_usI_at]
      · exact rd_ne hwv (hu w (by omega))
  exact c1 _ 0 z2 (Nat.zero_add _) fr_rf (fun w hw => by omega) (fun w _ => rfl)
theorem xq_change {x' x : Int32} (h : gI X z) (hR : relR z St) : Te (fun K => qe_X13_change K x' x z) (fun r => rFl X z 1 r ∧ (∀ d, d < 40 → x' = nI d → St d = none) ∨ ∃ d A sg, d < 40 ∧ x' = nI d ∧ St d = some (A, sg) ∧ (rFl X z 1 r ∧ (∀ y, 2 * y < A.flatten.length → x ≠ nI y) ∨ ∃ y, 2 * y < A.flatten.length ∧ x = nI y ∧ (rFl X z 2 r ∧ allF St ∨ ∃ e, lstF St e ∧ rKp X z e (A.map (List.map (flp (fun k => decide (k = y))))) (fun k => if k = y then !sg k else sg k) r))) := by
  have h1 := gI_1 (c := 0) h
  have hR1 := relR_1 (c := 0) hR
  refine e_X13_change ?_
  refine u_X13_change_0 ?_; unfold qm_X13_change_0
  refine w_wrF (w_hasX hR1 (fun h0 => w_ifT rfl (w_mono (w_failX h1 fr_1) (fun r hr => Or.inl ⟨hr, h0⟩))) (fun e A sg he hx hs hv hne => w_ifF (by decide) ?_))
  subst hx
  refine w_cs0 (to_open pn3 he hv) (fun z2 ⟨o1, f1⟩ => ?_)
  have h2 : gI X z2 := gI_net pn3 f1 (fun g hg => by omega) h1
  have hl := o1.len
  have hev := okF_len (c := A.flatten.length / 2) (F := A.flatten) (by obtain ⟨c, k1, k2⟩ := o1.2.2.1; have := okF_len k1; rw [this, show 2 * c / 2 = c by omega]; exact k1)
  have fs : ∀ {y : ow_MS}, fr (fun g => 3001 ≤ g ∧ g ≤ 3011) (usF z 1 0) y → fr rPs z y := fun hf => fr_tr fr_1 (fr_mono (fun g hg => Or.inr (by unfold rSc; omega)) hf)
  have c1 : (∀ y, 2 * y < A.flatten.length → x ≠ nI y) → Tt (fun K k => q_X13_change K k 1 (nI e) x z2) (fun r => rFl X z 1 r ∧ (∀ d, d < 40 → nI e = nI d → St d = none) ∨ ∃ d A sg, d < 40 ∧ nI e = nI d ∧ St d = some (A, sg) ∧ (rFl X z 1 r ∧ (∀ y, 2 * y < A.flatten.length → x ≠ nI y) ∨ ∃ y, 2 * y < A.flatten.length ∧ x = nI y ∧ (rFl X z 2 r ∧ allF St ∨ ∃ e, lstF St e ∧ rKp X z e (A.map (List.map (flp (fun k => decide (k = y))))) (fun k => if k = y then !sg k else sg k) r))) := by
    intro hno
    refine u_X13_change_1 ?_; unfold qm_X13_change_1
    exact w_mono (w_failX (k := 1) h2 (fs f1)) (fun r hr => Or.inr ⟨e, A, sg, he, rfl, hs, Or.inl ⟨hr, hno⟩⟩)
  refine w_if (fun h9 => c1 (fun y hy e9 => ?_)) (fun h0 => w_rdF o1.1.V (w_nzI (by decide) ?_))
  · rw [e9] at h9
    exact absurd h9 (nI_pos (by omega))
  rw [show nI A.flatten.length / 2 = nI (A.flatten.length / 2) from pk_div (d := 2) (by omega) (by omega) (by omega)]
  refine w_if (fun h9 => ?_) (fun h9 => c1 (fun y hy e9 => ?_))
  rotate_left
  · rw [e9] at h9
    exact h9 ((nI_ltI (by omega) (by omega)).mpr (by omega))
  obtain ⟨y, hy31, rfl⟩ := nI_of h0
  have hy : y < A.flatten.length / 2 := (nI_ltI hy31 (by omega)).mp h9
  refine w_freeX (relR_fr f1 (by omega) hR1) (fun hall => w_ifT rfl (w_mono (w_failX (k := 2) h2 (fs f1)) (fun r hr => Or.inr ⟨e, A, sg, he, rfl, hs, Or.inr ⟨y, by omega, rfl, Or.inl ⟨hr, hall⟩⟩⟩))) (fun f hfr => w_ifF (rn_neg1 (by have := hfr.1; omega)) (w_cs0 (tp_changeIn pn3 (by omega) (by omega) (fun v hv9 => ?_) o1.1.1) (fun z3 ⟨g1, g2, g3, g4⟩ => ?_)))
  · have := o1.cx hv9
    exact ⟨this.2.1, by omega⟩
  · have ff : fr (fun g => 3001 ≤ g ∧ g ≤ 3011) (usF z 1 0) z3 := fr_tr f1 (fr_mono (fun g hg => by omega) g2)
    refine w_mono (w_keepX (z0 := z) (sg2 := fun k => if k = y then !sg k else sg k) (gI_net pn3 g2 (fun g hg => by omega) h2) (relR_fr ff (by omega) hR1) hfr (by rw [(ff 1 (by omega)).1]; exact po_usF_at) (fs ff) g1 (fun p hp => ?_) (by rw [fl_map2]; exact wkF_flp o1.wk) (by rw [fl_map2, List.length_map]; exact hl) (by rw [List.length_map]; exact o1.2.2.2)) (fun r hr => Or.inr ⟨e, A, sg, he, rfl, hs, Or.inr ⟨y, by omega, rfl, Or.inr ⟨f, hfr, hr⟩⟩⟩)
    rw [fl_map2] at hp
    obtain ⟨q, hq, e9⟩ := List.mem_map.mp hp
    rw [← e9, flp_1]
    have hs9 := o1.2.1 q hq
    show z3.2.1 3006 q.1 = if (if q.1 = y then !sg q.1 else sg q.1) = true then -1 else 1
    by_cases hqy : q.1 = y
    · rw [if_pos hqy]
      rw [hqy] at hs9 ⊢
      rw [show z3.2.1 3006 y = 0 - z2.2.1 3006 y from g3, show z2.2.1 3006 y = _ from hs9]
      cases sg y <;> rfl
    · rw [show z3.2.1 3006 q.1 = z2.2.1 3006 q.1 from g4 q.1 hqy, if_neg hqy]
      exact hs9
end XM
end
section
/-! 99zzzzzzzzza.xcls -/
/-! exact calls of the class: the places as a table of lists; mirror, change -/
def relC (y : ow_MS) (St : plT) : Prop := ∀ d, d < 40 → (St d = none → y.2.1 1002 d = 0) ∧ ∀ A sg, St d = some (A, sg) → slC y 1000 d (clC sg A)
def okS (St : plT) : Prop := ∀ d A sg, d < 40 → St d = some (A, sg) → A ≠ [] ∧ plnA A sg ∧ ∃ c, okL A c
/-- a diagram was made of a net that shows A2 -/
def cKp (y : ow_MS) (e : Nat) (A2 : rn_L) (sg2 : Nat → Bool) (r : Int32 × ow_MS) : Prop := r.1 = nI e ∧ gN r.2 ∧ fr uP y r.2 ∧ (∃ T f Cs os, nv T ∧ pm1 T ∧ isoV A2 sg2 f T ∧ nt_plane T = true ∧ cpZ T (np_parts T.1 T.2.2.1.1).2 Cs os ∧ slC r.2 1000 e (enC T Cs os)) ∧ ∀ d C, d ≠ e → cOK C → slC y 1000 d C → slC r.2 1000 d C
section XC
variable {vl : Nat → Nat} {y : ow_MS} {St : plT} {x : Int32}
theorem relC_len (hC : relC y St) (hS : okS St) {d : Nat} (hd : d < 40) : y.2.1 1002 d = 0 ↔ St d = none := by
  obtain ⟨h1, h2⟩ := hC d hd
  cases e : St d with
  | none => exact ⟨fun _ => rfl, fun _ => h1 e⟩
  | some C =>
    obtain ⟨A, sg⟩ := C
    obtain ⟨k1, k2, c, k3⟩ := hS d A sg hd e
    have hs := (h2 A sg e).2.1
    have hl : 0 < (clC sg A).2.length := by
      show 0 < (ucd sg 0 [] A).length
      rw [ucd_len]
      have := List.length_pos_iff.mpr k1
      omega
    have h30 := (okL_c (sg := sg) k3).2.2.1
    refine ⟨fun h9 => ?_, fun h9 => by cases h9⟩
    have hs : y.2.1 1002 d = nI (clC sg A).2.length := hs
    rw [hs] at h9
    have := nI_inj9 (a := (clC sg A).2.length) (b := 0) (by omega) (by omega) h9
    omega
theorem xc_need (hN : dgC y) (hC : relC y St) (hS : okS St) : Te (fun K => ce_X11_needDiagram vl K 0 x y) (fun r => (r.1 = 1 ∧ (∀ d, d < 40 → x = nI d → St d = none) ∨ r.1 = 0 ∧ ∃ d A sg c, d < 40 ∧ x = nI d ∧ St d = some (A, sg) ∧ slC y 1000 d (clC sg A) ∧ okL A c ∧ A ≠ [] ∧ plnA A sg) ∧ r.2 = y) := by
  refine w_monoE (tc_need hN) ?_
  rintro r ⟨h1 | h1, h2⟩
  · refine ⟨Or.inr ⟨h1.1, ?_⟩, h2⟩
    obtain ⟨d, A, sg, c, hd, hx, hs, hA, hne⟩ := h1.2
    cases e : St d with
    | none =>
      exfalso
      have h9 := (hC d hd).1 e
      have hl : 0 < (clC sg A).2.length := by
        show 0 < (ucd sg 0 [] A).length
        rw [ucd_len]
        have := List.length_pos_iff.mpr hne
        omega
      have h30 := (okL_c (sg := sg) hA).2.2.1
      have hs2 : y.2.1 1002 d = nI (clC sg A).2.length := hs.2.1
      rw [hs2] at h9
      have := nI_inj9 (a := (clC sg A).2.length) (b := 0) (by omega) (by omega) h9
      omega
    | some C =>
      obtain ⟨k1, k2, c', k3⟩ := hS d C.1 C.2 hd e
      exact ⟨d, C.1, C.2, c', hd, hx, e, (hC d hd).2 C.1 C.2 e, k3, k1, k2⟩
  · exact ⟨Or.inl ⟨h1.1, fun d hd hx => (relC_len hC hS hd).mp (h1.2 d hd hx)⟩, h2⟩
theorem xc_free (hN : dgC y) (hC : relC y St) (hS : okS St) : Te (fun K => ce_X11_freeDiagram vl K 0 y) (fun r => (r.1 = 3 ∧ allF St ∨ r.1 = 0 ∧ ∃ e, r.2.1 = nI e ∧ lstF St e) ∧ r.2.2 = y) := by
  refine w_monoE (tc_freeDiagram (dgC_E hN)) ?_
  rintro r ⟨⟨d, hd, h1, h2, h3, h4⟩ | ⟨h1, h2⟩, h5⟩
  · exact ⟨Or.inr ⟨h1, d, h2, hd, (relC_len hC hS hd).mp h3, fun e he e9 => h4 e he ((relC_len hC hS (by omega)).mpr e9)⟩, h5⟩
  · exact ⟨Or.inl ⟨h1, fun d hd e9 => h2 d hd ((relC_len hC hS hd).mpr e9)⟩, h5⟩
theorem isoV_sg {A : rn_L} {sg sg' : Nat → Bool} {f : Nat → Nat} {T : ow_NT} (h : isoV A sg f T) (hs : ∀ p, p ∈ A.flatten → sg' p.1 = sg p.1) : isoV A sg' f T := ⟨⟨h.1.1, h.1.2.1, h.1.2.2.1, h.1.2.2.2.1, h.1.2.2.2.2.1, h.1.2.2.2.2.2.1, fun p hp => by rw [hs p hp]; exact h.1.2.2.2.2.2.2.1 p hp, h.1.2.2.2.2.2.2.2⟩, h.2⟩
theorem jn_pm1 {A : rn_L} {sg : Nat → Bool} {c : Nat} {S : ow_NP} {G : Nat → Int32} (h : jnN A sg c S G) : pm1 (c, cirs A, S, G) := fun x hx => by
  have h7 : G x = if sg x then -1 else 1 := h.2.2.2 x hx
  show G x = 1 ∨ G x = -1
  rw [h7]
  split
  · exact Or.inr rfl
  · exact Or.inl rfl
theorem flp_s {A : rn_L} {a : Nat → Bool} {x : Nat} (ha : a x = false) : (A.map (List.map (flp a))).map (List.map (flp (fun y => decide (y = x)))) = A.map (List.map (flp (fun y => a y || decide (y = x)))) := by
  rw [List.map_map]
  refine List.map_congr_left (fun L _ => ?_)
  show (L.map (flp a)).map (flp _) = _
  rw [List.map_map]
  refine List.map_congr_left (fun p _ => ?_)
  show flp (fun y => decide (y = x)) (flp a p) = flp (fun y => a y || decide (y = x)) p
  unfold flp
  by_cases e : p.1 = x
  · rw [e, ha]
    simp [e]
  · cases h : a p.1 <;> simp [h, e]
/-- the net of place d comes to the net 4000 -/
theorem xc_ld {d c : Nat} {A : rn_L} {sg : Nat → Bool} (hN : gN y) (hd : d < 40) (hs : slC y 1000 d (clC sg A)) (hA : okL A c) (hp : plnA A sg) : Te (fun K => ce_X7_load vl K 4000 1000 (nI d) y) (fun y1 => gN y1 ∧ fr (cL 4000) y y1 ∧ ∃ T, shA y1 4000 A sg T ∧ T.1 = c ∧ isoV A sg (fun x => x) T ∧ pm1 T ∧ nt_plane T = true) := by
  refine w_monoE (tc_ld3 nH4 hN hd hs hA) ?_
  rintro y2 ⟨g1, g2, S, G, g3, g4⟩
  have hV : isoV A sg (fun x => x) (c, cirs A, S, G) := isoV_of g4.2.1 g4.2.2.1
  exact ⟨g1, g2, _, g3, rfl, hV, jn_pm1 g4, hp _ _ hV (jn_pm1 g4)⟩
theorem relC_fr {P : Nat → Prop} {y1 : ow_MS} (hf : fr P y y1) (hP : ∀ q, cW 1000 q → ¬ P q) (hC : relC y St) : relC y1 St := fun d hd => ⟨fun e => by
  rw [(hf 1002 (hP 1002 (by unfold cW; omega))).2.1]
  exact (hC d hd).1 e, fun A sg e => slC_fr hf hP ((hC d hd).2 A sg e)⟩
theorem xc_change {x' : Int32} (hN : gN y) (hC : relC y St) (hS : okS St) : Te (fun K => ce_X11_change vl K 0 x x' y) (fun r => r.1 = 1 ∧ gN r.2.2 ∧ fr uP y r.2.2 ∧ relC r.2.2 St ∧ (∀ d, d < 40 → x = nI d → St d = none) ∨ ∃ d A sg, d < 40 ∧ x = nI d ∧ St d = some (A, sg) ∧ (r.1 = 1 ∧ gN r.2.2 ∧ fr uP y r.2.2 ∧ relC r.2.2 St ∧ (∀ k, 2 * k < A.flatten.length → x' ≠ nI k) ∨ ∃ k, 2 * k < A.flatten.length ∧ x' = nI k ∧ (r.1 = 3 ∧ gN r.2.2 ∧ fr uP y r.2.2 ∧ relC r.2.2 St ∧ allF St ∨ r.1 = 0 ∧ ∃ e, lstF St e ∧ cKp y e (A.map (List.map (flp (fun j => decide (j = k))))) (fun j => if j = k then !sg j else sg j) r.2))) := by
  refine e_X11_change ?_; unfold cm_X11_change_0
  refine w_tc0 (xc_need hN.1 hC hS) ?_ ?_
  · rintro y1 ⟨h1, rfl⟩
    rcases h1 with h1 | ⟨-, d, A, sg, c, hd, rfl, hSt, hs, hA, hne, hpl⟩
    · exact absurd (show (0 : Nat) = 1 from h1.1) (by decide)
    · refine w_cs0 (xc_ld hN hd hs hA hpl) ?_
      rintro y3 ⟨hN3, f3, T, hT, hT1, hV, hpm, hTp⟩
      have f3u : fr uP y1 y3 := fr_mono (fun g hg => by unfold cL at hg; unfold uP; omega) f3
      have hC3 : relC y3 St := relC_fr f3 (fun q hq h9 => by unfold cW at hq; unfold cL at h9; omega) hC
      have hv := hT.2.2.1
      have hlen := hV.1.2.1
      refine w_tc0 (tc_needCrossing hT.1.1 hv.2.1) ?_ ?_
      · rintro y4 ⟨h4, rfl⟩
        rcases h4 with ⟨-, i, hi, rfl⟩ | h4
        · refine w_tc1 (xc_free hN3.1 hC3 hS) ?_ ?_
          · rintro v y5 ⟨h5, rfl⟩
            rcases h5 with h5 | ⟨-, e, rfl, hl⟩
            · exact absurd (show (0 : Nat) = 3 from h5.1) (by decide)
            · have h12 := hv.2.1
              refine w_cs0 (tc_flipCrossing nH4 hT.1 hv.2.2.1 (show i < 12 by omega)) ?_
              rintro y6 ⟨g1, g2⟩
              have hv5 := nv_flip (G := su T.2.2.2 i (- T.2.2.2 i)) hv hi
              refine w_cs1 (tc_keep (gN_net nH4 g2 (fun g hg => by unfold cP at hg; omega) ⟨_, g1, hv5.2.2.1⟩ hN3) hl.1 g1 hv5) ?_
              rintro r y7 ⟨q0, q1, q2, ⟨Cs, os, q3, q4⟩, q5, -⟩
              refine w_some (Or.inr ⟨d, A, sg, hd, rfl, hSt, Or.inr ⟨i, by omega, rfl, Or.inr ⟨rfl, e, hl, q0, q1, fr_tr f3u (fr_tr (fr_mono (fun g hg => by unfold cP at hg; unfold uP; omega) g2) q2), ⟨ntF T i, fun x => x, Cs, os, hv5, pm1_F hpm, iso_flip hV hpm hi, (pl_flip hv.1 hv.2.1 hpm hi).mp hTp, q3, q4⟩, fun d' C' h1 h2 h3 => q5 d' C' h1 h2 (slC_fr g2 (fun q hq h9 => by unfold cW at hq; unfold cP at h9; omega) (slC_fr f3 (fun q hq h9 => by unfold cW at hq; unfold cL at h9; omega) h3))⟩⟩⟩)
          · rintro a v y5 ha ⟨h5, rfl⟩
            rcases h5 with h5 | h5
            · exact w_some (Or.inr ⟨d, A, sg, hd, rfl, hSt, Or.inr ⟨i, by omega, rfl, Or.inl ⟨h5.1, hN3, f3u, hC3, h5.2⟩⟩⟩)
            · exact absurd h5.1 ha
        · exact absurd (show (0 : Nat) = 1 from h4.1) (by decide)
      · rintro a y4 ha ⟨h4, rfl⟩
        rcases h4 with h4 | h4
        · exact absurd h4.1 ha
        · exact w_some (Or.inr ⟨d, A, sg, hd, rfl, hSt, Or.inl ⟨h4.1, hN3, f3u, hC3, fun k hk => h4.2 k (by omega)⟩⟩)
  · rintro a y1 ha ⟨h1, rfl⟩
    rcases h1 with h1 | h1
    · exact w_some (Or.inl ⟨h1.1, hN, fr_rf, hC, h1.2⟩)
    · exact absurd h1.1 ha
theorem xc_mirror (hN : gN y) (hC : relC y St) (hS : okS St) : Te (fun K => ce_X11_mirror vl K 0 x y) (fun r => r.1 = 1 ∧ gN r.2.2 ∧ fr uP y r.2.2 ∧ relC r.2.2 St ∧ (∀ d, d < 40 → x = nI d → St d = none) ∨ ∃ d A sg, d < 40 ∧ x = nI d ∧ St d = some (A, sg) ∧ (r.1 = 3 ∧ gN r.2.2 ∧ fr uP y r.2.2 ∧ relC r.2.2 St ∧ allF St ∨ r.1 = 0 ∧ ∃ e, lstF St e ∧ cKp y e (A.map (List.map (flp (fun _ => true)))) (fun j => !sg j) r.2)) := by
  let Q : Nat × Int32 × ow_MS → Prop := fun r => r.1 = 1 ∧ gN r.2.2 ∧ fr uP y r.2.2 ∧ relC r.2.2 St ∧ (∀ d, d < 40 → x = nI d → St d = none) ∨ ∃ d A sg, d < 40 ∧ x = nI d ∧ St d = some (A, sg) ∧ (r.1 = 3 ∧ gN r.2.2 ∧ fr uP y r.2.2 ∧ relC r.2.2 St ∧ allF St ∨ r.1 = 0 ∧ ∃ e, lstF St e ∧ cKp y e (A.map (List.map (flp (fun _ => true)))) (fun j => !sg j) r.2)
  refine e_X11_mirror ?_
  refine u_X11_mirror_0 ?_; unfold cm_X11_mirror_0
  refine w_tc0 (xc_need hN.1 hC hS) ?_ ?_
  · rintro y1 ⟨h1, e0⟩
    have e0 : y1 = y := e0
    subst e0
    rcases h1 with h1 | ⟨-, d, A, sg, c, hd, rfl, hSt, hs, hA, hne, hpl⟩
    · exact absurd (show (0 : Nat) = 1 from h1.1) (by decide)
    · refine w_tc1 (xc_free hN.1 hC hS) ?_ ?_
      · rintro v y2 ⟨h2, e0⟩
        have e0 : y2 = y1 := e0
        subst e0
        rcases h2 with h2 | ⟨-, e, rfl, hl⟩
        · exact absurd (show (0 : Nat) = 3 from h2.1) (by decide)
        · refine w_cs0 (xc_ld hN hd hs hA hpl) ?_
          rintro y3 ⟨hN3, f3, T, hT, hT1, hV, hpm, hTp⟩
          have f3u : fr uP y2 y3 := fr_mono (fun g hg => by unfold cL at hg; unfold uP; omega) f3
          have c1 : ∀ (k i : Nat) (y4 : ow_MS) (T4 : ow_NT), i + k = c → T4.1 = c → cAt y4 4000 T4 → nv T4 → gN y4 → fr uP y2 y4 → (∀ d C, slC y2 1000 d C → slC y4 1000 d C) → pm1 T4 → isoV (A.map (List.map (flp (fun j => decide (j < i))))) (fun j => if j < i then !sg j else sg j) (fun x => x) T4 → nt_plane T4 = true → Tt (fun K t => c_X11_mirror vl K t 1 (nI d) (nI e) (nI i) 0 y4) Q := by
            intro k
            induction k with
            | zero =>
              intro i y4 T4 hi hT4 hc4 hv4 hN4 f4 hsl hpm4 hV4 hp4
              have h12 := hv4.2.1
              refine u_X11_mirror_1 ?_; unfold cm_X11_mirror_1
              refine w_rdF hc4.1 (w_leT (by omega) (by omega) (w_cs1 (tc_keep hN4 hl.1 hc4 hv4) ?_))
              rintro r y5 ⟨q0, g1, g2, ⟨Cs, os, q3, q4⟩, q5, -⟩
              have eA : A.map (List.map (flp (fun j => decide (j < i)))) = A.map (List.map (flp (fun _ => true))) := List.map_congr_left (fun L hL => List.map_congr_left (fun p hp => by
                have : p.1 < c := ((hA.1.2 p).mp (List.mem_flatten.mpr ⟨L, hL, hp⟩)).1
                show (if decide (p.1 < i) = true then (p.1, 1 - p.2) else p) = (p.1, 1 - p.2)
                rw [decide_eq_true (show p.1 < i by omega)]
                rfl))
              have hV5 : isoV (A.map (List.map (flp (fun _ => true)))) (fun j => !sg j) (fun x => x) T4 := by
                rw [eA] at hV4
                refine isoV_sg hV4 (fun p hp => ?_)
                have : p.1 < T4.1 := hV4.1.2.2.2.1 p hp
                show (!sg p.1) = if p.1 < i then !sg p.1 else sg p.1
                rw [if_pos (by omega)]
              exact w_some (Or.inr ⟨d, A, sg, hd, rfl, hSt, Or.inr ⟨rfl, e, hl, q0, g1, fr_tr f4 g2, ⟨T4, _, Cs, os, hv4, hpm4, hV5, hp4, q3, q4⟩, fun d' C' h1 h2 h3 => q5 d' C' h1 h2 (hsl d' C' h3)⟩⟩)
            | succ k ih =>
              intro i y4 T4 hi hT4 hc4 hv4 hN4 f4 hsl hpm4 hV4 hp4
              have h12 := hv4.2.1
              refine u_X11_mirror_1 ?_; unfold cm_X11_mirror_1
              refine w_rdF hc4.1 (w_leF (by omega) (by omega) (w_cs0 (tc_flipCrossing nH4 hc4 hv4.2.2.1 (show i < 12 by omega)) ?_))
              rintro y5 ⟨g1, g2⟩
              rw [nI_1]
              have hiT : i < T4.1 := by omega
              have hv5 := nv_flip (G := su T4.2.2.2 i (- T4.2.2.2 i)) hv4 hiT
              have hV6 := iso_flip hV4 hpm4 hiT
              rw [flp_s (decide_eq_false (Nat.lt_irrefl i))] at hV6
              have eb : (fun j => decide (j < i) || decide (j = i)) = fun j => decide (j < i + 1) := funext (fun j => by
                by_cases h9 : j < i
                · rw [decide_eq_true h9, decide_eq_true (show j < i + 1 by omega)]
                  rfl
                · rw [decide_eq_false h9, Bool.false_or]
                  exact decide_eq_decide.mpr (by omega))
              rw [eb] at hV6
              refine ih (i + 1) y5 (ntF T4 i) (by omega) hT4 g1 hv5 (gN_net nH4 g2 (fun g hg => by unfold cP at hg; omega) ⟨_, g1, hv5.2.2.1⟩ hN4) (fr_tr f4 (fr_mono (fun g hg => by unfold cP at hg; unfold uP; omega) g2)) (fun d' C' h3 => slC_fr g2 (fun q hq h9 => by unfold cW at hq; unfold cP at h9; omega) (hsl d' C' h3)) (pm1_F hpm4) (isoV_sg hV6 (fun p _ => ?_)) ((pl_flip hv4.1 hv4.2.1 hpm4 hiT).mp hp4)
              show (if p.1 < i + 1 then !sg p.1 else sg p.1) = if p.1 = i then !(if p.1 < i then !sg p.1 else sg p.1) else if p.1 < i then !sg p.1 else sg p.1
              by_cases h9 : p.1 = i
              · rw [if_pos (by omega), if_pos h9, if_neg (by omega)]
              · rw [if_neg h9]
                by_cases h8 : p.1 < i
                · rw [if_pos h8, if_pos (by omega)]
                · rw [if_neg h8, if_neg (by omega)]
          refine c1 c 0 y3 T (by omega) hT1 hT.1 hT.2.2.1 hN3 f3u (fun d' C' h3 => slC_fr f3 (fun q hq h9 => by unfold cW at hq; unfold cL at h9; omega) h3) hpm ?_ hTp
          have e1 : A.map (List.map (flp (fun j => decide (j < 0)))) = A := by
            have : ∀ L : List (Nat × Nat), L.map (flp (fun j => decide (j < 0))) = L := fun L => by
              conv => rhs; rw [← List.map_id L]
              exact List.map_congr_left (fun p _ => by unfold flp; rfl)
            conv => rhs; rw [← List.map_id A]
            exact List.map_congr_left (fun L _ => this L)
          rw [e1]
          exact hV
      · rintro a v y2 ha ⟨h2, e0⟩
        have e0 : y2 = y1 := e0
        subst e0
        rcases h2 with h2 | h2
        · exact w_some (Or.inr ⟨d, A, sg, hd, rfl, hSt, Or.inl ⟨h2.1, hN, fr_rf, hC, h2.2⟩⟩)
        · exact absurd h2.1 ha
  · rintro a y1 ha ⟨h1, e0⟩
    have e0 : y1 = y := e0
    subst e0
    rcases h1 with h1 | h1
    · exact w_some (Or.inl ⟨h1.1, hN, fr_rf, hC, h1.2⟩)
    · exact absurd h1.1 ha
end XC
end
section
/-! 99zzzzzzzzzb.xjn -/
/-! both sides: what was made is the same diagram -/
section XJ
variable {X : (Nat → Nat → Int32) → Prop} {y z : ow_MS} {St : plT}
theorem relR_put {z1 : ow_MS} {e : Nat} {A' : rn_L} {sg' : Nat → Bool} (hR : relR z St) (he : e < 40) (hne : A' ≠ []) (hv : vRow z1 12 (32 * e) A' sg') (hi : ∀ i, i < 32 * e ∨ 32 * e + 32 ≤ i → z1.2.1 12 i = z.2.1 12 i) : relR z1 (upP St e (some (A', sg'))) := by
  intro d hd
  by_cases ed : d = e
  · subst ed
    rw [show upP St d (some (A', sg')) d = some (A', sg') from if_pos rfl]
    refine ⟨(fun h => by cases h), fun A sg h => ?_⟩
    cases h
    exact ⟨hne, hv⟩
  · rw [show upP St e (some (A', sg')) d = St d from if_neg ed]
    obtain ⟨k1, k2⟩ := hR d hd
    refine ⟨fun h => by rw [hi _ (by omega)]; exact k1 h, fun A sg h => ?_⟩
    obtain ⟨q1, ⟨q2, q3, q4, q5⟩, q6⟩ := k2 A sg h
    refine ⟨q1, ⟨q2, q3, by rw [hi _ (by omega)]; exact q4, fun k t hk => ?_⟩, q6⟩
    have := (List.getElem?_eq_some_iff.mp hk).1
    rw [hi _ (by omega)]
    exact q5 k t hk
theorem relC_put {y1 : ow_MS} {e : Nat} {A' : rn_L} {sg' : Nat → Bool} (hN : dgC y) (hC : relC y St) (hS : okS St) (hs : slC y1 1000 e (clC sg' A')) (ho : ∀ d C, d ≠ e → cOK C → slC y 1000 d C → slC y1 1000 d C) : relC y1 (upP St e (some (A', sg'))) := by
  intro d hd
  by_cases ed : d = e
  · subst ed
    rw [show upP St d (some (A', sg')) d = some (A', sg') from if_pos rfl]
    refine ⟨(fun h => by cases h), fun A sg h => ?_⟩
    cases h
    exact hs
  · rw [show upP St e (some (A', sg')) d = St d from if_neg ed]
    obtain ⟨k1, k2⟩ := hC d hd
    refine ⟨fun h => ?_, fun A sg h => ?_⟩
    · have h0 := k1 h
      rcases hN.2 d hd with ⟨c, c1, c2⟩ | ⟨C, c1, c2, c3⟩
      · exact (ho d _ ed ⟨c1, Nat.zero_le _, fun a ha => by cases ha⟩ c2).2.1
      · exfalso
        have h9 : y.2.1 1002 d = nI C.2.length := c1.2.1
        rw [h9] at h0
        have h30 := (okC_ok c2).2.1
        have := nI_inj9 (a := C.2.length) (b := 0) (by omega) (by omega) h0
        omega
    · obtain ⟨-, -, c, q3⟩ := hS d A sg hd h
      exact ho d _ ed (okL_c q3).2 (k2 A sg h)
/-- one diagram on both sides -/
theorem kp_join {e : Nat} {A2 : rn_L} {sg2 : Nat → Bool} {rc rr : Int32 × ow_MS} (hN : dgC y) (hC : relC y St) (hR : relR z St) (hS : okS St) (he : lstF St e) (h6 : A2.length ≤ 6) (hne : A2 ≠ []) (hc : cKp y e A2 sg2 rc) (hr : rKp X z e A2 sg2 rr) : rc.1 = rr.1 ∧ ∃ A' sg', relC rc.2 (upP St e (some (A', sg'))) ∧ relR rr.2 (upP St e (some (A', sg'))) ∧ okS (upP St e (some (A', sg'))) := by
  obtain ⟨c1, c2, c3, ⟨T, f, Cs, os, t1, t2, t3, t4, t5, t6⟩, c4⟩ := hc
  obtain ⟨r1, r2, r3, r4, ⟨m, P, m1, m2⟩, r5⟩ := hr
  obtain ⟨A', sg', p1, p2, p3, p4, f', p5⟩ := enc_iso (isoS_iff.mp t3.1) h6 t1 m1 t5
  have hne' : A' ≠ [] := fun e9 => by
    rw [e9] at p4
    exact hne (List.length_eq_zero_iff.mp p4.symm)
  refine ⟨by rw [c1, r2], A', sg', relC_put hN hC hS (by rw [← p3]; exact t6) c4, relR_put hR he.1 hne' ⟨by rw [← p1]; exact m2, ⟨T.1, p2.1, t1.2.1⟩, by omega⟩ r5, fun d A sg hd h => ?_⟩
  by_cases ed : d = e
  · subst ed
    rw [show upP St d (some (A', sg')) d = some (A', sg') from if_pos rfl] at h
    cases h
    exact ⟨hne', plnA_of p5 t2 t4, T.1, p2⟩
  · rw [show upP St e (some (A', sg')) d = St d from if_neg ed] at h
    exact hS d A sg hd h
end XJ
end
section
/-! 99zzzzzzzzzc.xap -/
/-! exact calls of the reference: apart -/
theorem cmp_at {B : rn_L} {m i : Nat} (hm : m < B.length) (h1 : rn_b B m ≤ i) (h2 : i < rn_b B (m + 1)) : (B.getD m [])[i - rn_b B m]? = some (vAt B i) := by
  have es : B.flatten = (B.take m).flatten ++ (B[m] ++ (B.drop (m + 1)).flatten) := by
    conv => lhs; rw [← List.take_append_drop m B, List.drop_eq_getElem_cons hm]
    rw [List.flatten_append, List.flatten_cons]
  have hb := rnb_s hm
  have hlt : i < B.flatten.length := Nat.lt_of_lt_of_le h2 (rn_b_le B (m + 1))
  have h3 := vAt_of hlt
  have eg : B.getD m [] = B[m] := by
    rw [List.getD_eq_getElem?_getD, List.getElem?_eq_getElem hm]
    rfl
  rw [eg, ← h3, es, List.getElem?_append_right (show (B.take m).flatten.length ≤ i from h1), List.getElem?_append_left (show i - (B.take m).flatten.length < (B[m]).length by have : rn_b B m = (B.take m).flatten.length := rfl; omega)]
  rfl
theorem cmp_all {B : rn_L} {m : Nat} (hm : m < B.length) : (B.getD m []).take (rn_b B (m + 1) - rn_b B m) = B.getD m [] := by
  have hb := rnb_s hm
  have eg : B.getD m [] = B[m] := by
    rw [List.getD_eq_getElem?_getD, List.getElem?_eq_getElem hm]
    rfl
  rw [eg, show rn_b B (m + 1) - rn_b B m = (B[m]).length by omega, List.take_length]
theorem take_s {α : Type} {L : List α} {k : Nat} {x : α} (h : L[k]? = some x) : L.take (k + 1) = L.take k ++ [x] := by
  rw [List.take_succ, h]
  rfl
theorem tk_snoc {B : rn_L} {m : Nat} (hm : m < B.length) : B.take (m + 1) = B.take m ++ [B.getD m []] := by
  refine take_s ?_
  rw [List.getD_eq_getElem?_getD, List.getElem?_eq_getElem hm]
  rfl
theorem shN_app {s : Nat} {A B : rn_L} : shN s (A ++ B) = shN s A ++ shN s B := by
  unfold shN
  rw [List.map_append]
section XA
variable {X : (Nat → Nat → Int32) → Prop} {z : ow_MS} {St : plT}
theorem xr_addNet {o s c : Nat} {z : ow_MS} {O B : rn_L} {sg : Nat → Bool} (ho : mw_net o) (hon : o ≠ 3000) (hO : oNet z o B sg) (hok : okF B.flatten c) (hl : O.flatten.length + B.flatten.length ≤ 24) (hq : O.length + B.length ≤ 12) (hs : s + c ≤ 24) (hA : rn_At z 3000 O []) : Te (fun K => qe_X13_addNet K o (nI s) z) (fun z1 => rn_At z1 3000 (O ++ shN s B) [] ∧ fr (fun g => 3001 ≤ g ∧ g ≤ 3006) z z1 ∧ (∀ x, x < c → z1.2.1 3006 (x + s) = z.2.1 (o + 6) x) ∧ ∀ x, x < s → z1.2.1 3006 x = z.2.1 3006 x) := by
  have hmo := net_mod ho
  have hBc := okF_len hok
  have oY : ∀ {y : ow_MS}, fr (fun g => 3001 ≤ g ∧ g ≤ 3006) z y → oNet y o B sg := fun hf => oNet_fr hf (fun g hg => by omega) hO
  let Q : ow_MS → Prop := fun z1 => rn_At z1 3000 (O ++ shN s B) [] ∧ fr (fun g => 3001 ≤ g ∧ g ≤ 3006) z z1 ∧ (∀ x, x < c → z1.2.1 3006 (x + s) = z.2.1 (o + 6) x) ∧ ∀ x, x < s → z1.2.1 3006 x = z.2.1 3006 x
  have l3 : ∀ (k x : Nat) (y : ow_MS), x + k = c → fr (fun g => 3001 ≤ g ∧ g ≤ 3006) z y → rn_At y 3000 (O ++ shN s B) [] → (∀ x', x' < x → y.2.1 3006 (x' + s) = z.2.1 (o + 6) x') → (∀ x, x < s → y.2.1 3006 x = z.2.1 3006 x) → Tt (fun K i => q_X13_addNet K i 3 (nI s) (nI x) 0 o y) Q := by
    intro k
    induction k with
    | zero =>
      intro x y hx hf hb h1 h2
      refine u_X13_addNet_3 ?_; unfold qm_X13_addNet_3
      refine w_rdF (oY hf).1.V (w_nzI (by decide) ?_)
      rw [show nI B.flatten.length / 2 = nI (B.flatten.length / 2) from pk_div (d := 2) (by omega) (by omega) (by omega)]
      exact w_leT (by omega) (by omega) (w_some ⟨hb, hf, fun x' hx' => h1 x' (by omega), h2⟩)
    | succ k ih =>
      intro x y hx hf hb h1 h2
      refine u_X13_addNet_3 ?_; unfold qm_X13_addNet_3
      refine w_rdF (oY hf).1.V (w_nzI (by decide) ?_)
      rw [show nI B.flatten.length / 2 = nI (B.flatten.length / 2) from pk_div (d := 2) (by omega) (by omega) (by omega), nI_add, nI_1]
      refine w_leF (by omega) (by omega) (w_rdI (pl6 ho) rfl (by omega) rfl (w_wrI (pl6 pn3) rfl (by omega) ?_))
      refine ih (x + 1) _ (by omega) (fr_I2 hf (by omega)) (fr_At (P := fun g => g = 3006) (fr_I rfl) (fun g hg => by omega) hb) (fun x' hx' => ?_) (fun x' hx' => rd_ne (by omega) (h2 x' hx'))
      by_cases he : x' = x
      · rw [he]
        show (usI y 3006 (x + s) (y.2.1 (o + 6) x)).2.1 3006 (x + s) = _
        rw [po_usI_at, (hf (o + 6) (by omega)).2.1]
      · exact rd_ne (by omega) (h1 x' (by omega))
  have lenS : ∀ m, m ≤ B.length → (O ++ shN s (B.take m)).flatten.length = O.flatten.length + rn_b B m := fun m _ => by
    rw [List.flatten_append, List.length_append, shN_fl, List.length_map]
    rfl
  have out : ∀ (k m : Nat) (y : ow_MS), m + k = B.length → fr (fun g => 3001 ≤ g ∧ g ≤ 3006) z y → y.2.1 3006 = z.2.1 3006 → rn_At y 3000 (O ++ shN s (B.take m)) [] → Tt (fun K i => q_X13_addNet K i 1 (nI s) (nI m) 0 o y) Q := by
    intro k
    induction k with
    | zero =>
      intro m y hm hf h6 hb
      have hme : m = B.length := by omega
      rw [hme, List.take_length] at hb
      refine u_X13_addNet_1 ?_; unfold qm_X13_addNet_1
      exact w_rdF (lk_C (oY hf).1) (w_leT (by omega) (by omega) (l3 c 0 y (by omega) hf hb (fun x hx => by omega) (fun x _ => by rw [h6])))
    | succ k ih =>
      intro m y hm hf h6 hb
      have hmB : m < B.length := by omega
      have hmono := rn_b_mono B m
      have hble := rn_b_le B (m + 1)
      have inn : ∀ (k i : Nat) (y : ow_MS), i + k = rn_b B (m + 1) → rn_b B m ≤ i → fr (fun g => 3001 ≤ g ∧ g ≤ 3006) z y → y.2.1 3006 = z.2.1 3006 → rn_At y 3000 (O ++ shN s (B.take m)) (((B.getD m []).take (i - rn_b B m)).map (shv s)) → Tt (fun K i9 => q_X13_addNet K i9 2 (nI s) (nI m) (nI i) o y) Q := by
        intro k
        induction k with
        | zero =>
          intro i y hi hlo hf h6 hb
          have hie : i = rn_b B (m + 1) := by omega
          rw [hie] at hb ⊢
          rw [cmp_all hmB] at hb
          refine u_X13_addNet_2 ?_; unfold qm_X13_addNet_2
          rw [nI_1]
          refine w_rdI (pl3 ho) rfl (by omega) (lk_b (oY hf).1 (by omega)) (w_leT (by omega) (Nat.le_refl _) (w_cs0 (tn_end pn3 hb (by rw [List.length_append]; unfold shN; rw [List.length_map, List.length_take]; omega)) (fun y2 ⟨g1, g2⟩ => ih (m + 1) y2 (by omega) (fr_tr hf (fr_mono (fun g hg => by omega) g2)) (by rw [(g2 3006 (by omega)).2.1]; exact h6) ?_)))
          rw [tk_snoc hmB, shN_app, ← List.append_assoc]
          exact g1
        | succ k ihk =>
          intro i y hi hlo hf h6 hb
          have hil : i < B.flatten.length := by omega
          have hat := cmp_at hmB hlo (show i < rn_b B (m + 1) by omega)
          have hbl : ((B.getD m []).take (i - rn_b B m)).length ≤ i - rn_b B m := by rw [List.length_take]; omega
          refine u_X13_addNet_2 ?_; unfold qm_X13_addNet_2
          rw [nI_1]
          refine w_rdI (pl3 ho) rfl (by omega) (lk_b (oY hf).1 (by omega)) (w_leF (by omega) (by omega) (w_rdI (pl4 ho) rfl (by omega) (lk_cu (oY hf).1 hil).1 (w_rdI (pl5 ho) rfl (by omega) (lk_cu (oY hf).1 hil).2 ?_)))
          rw [nI_add]
          refine w_cs0 (tn_add (x := crs B i + s) (u := uns B i) pn3 hb (by rw [List.length_append, lenS m (by omega), List.length_map]; omega)) (fun y2 ⟨g1, g2⟩ => ?_)
          rw [nI_1]
          refine ihk (i + 1) y2 (by omega) (by omega) (fr_tr hf (fr_mono (fun g hg => by omega) g2)) (by rw [(g2 3006 (by omega)).2.1]; exact h6) ?_
          rw [show i + 1 - rn_b B m = (i - rn_b B m) + 1 by omega, take_s hat, List.map_append]
          exact g1
      refine u_X13_addNet_1 ?_; unfold qm_X13_addNet_1
      refine w_rdF (lk_C (oY hf).1) (w_leF (by omega) (by omega) (w_rdI (pl3 ho) rfl (by omega) (lk_b (oY hf).1 (by omega)) (inn _ (rn_b B m) y (by omega : rn_b B m + (rn_b B (m + 1) - rn_b B m) = _) (Nat.le_refl _) hf h6 ?_)))
      rw [Nat.sub_self, List.take_zero]
      exact hb
  refine e_X13_addNet ?_
  refine u_X13_addNet_0 ?_; unfold qm_X13_addNet_0
  refine out B.length 0 z (by omega) fr_rf rfl ?_
  rw [List.take_zero]
  show rn_At z 3000 (O ++ []) []
  rw [List.append_nil]
  exact hA
theorem okB_0 {F : List (Nat × Nat)} {c : Nat} : okB F 0 c ↔ okF F c := by
  unfold okB okF
  constructor
  · rintro ⟨h1, h2⟩
    exact ⟨h1, fun p => by rw [h2]; omega⟩
  · rintro ⟨h1, h2⟩
    exact ⟨h1, fun p => by rw [h2]; omega⟩
theorem app_ok {A B : rn_L} {a b : Nat} (ha : okF A.flatten a) (hb : okF B.flatten b) : okF (A ++ shN a B).flatten (a + b) := by
  rw [← okB_0, List.flatten_append]
  refine okB_app (okB_0.mpr ha) ?_
  rw [Nat.zero_add]
  exact okF_sh hb
theorem xq_apart {x x' : Int32} (h : gI X z) (hR : relR z St) : Te (fun K => qe_X13_apart K x x' z) (fun r => rFl X z 1 r ∧ ((∀ d, d < 40 → x = nI d → St d = none) ∨ ∀ d, d < 40 → x' = nI d → St d = none) ∨ ∃ d A sg e B sg', d < 40 ∧ x = nI d ∧ St d = some (A, sg) ∧ e < 40 ∧ x' = nI e ∧ St e = some (B, sg') ∧ (rFl X z 2 r ∧ (24 < A.flatten.length + B.flatten.length ∨ 6 < A.length + B.length) ∨ A.flatten.length + B.flatten.length ≤ 24 ∧ A.length + B.length ≤ 6 ∧ (rFl X z 3 r ∧ allF St ∨ ∃ f, lstF St f ∧ rKp X z f (A ++ shN (A.flatten.length / 2) B) (fun k => if k < A.flatten.length / 2 then sg k else sg' (k - A.flatten.length / 2)) r))) := by
  let Q : Int32 × ow_MS → Prop := fun r => rFl X z 1 r ∧ ((∀ d, d < 40 → x = nI d → St d = none) ∨ ∀ d, d < 40 → x' = nI d → St d = none) ∨ ∃ d A sg e B sg', d < 40 ∧ x = nI d ∧ St d = some (A, sg) ∧ e < 40 ∧ x' = nI e ∧ St e = some (B, sg') ∧ (rFl X z 2 r ∧ (24 < A.flatten.length + B.flatten.length ∨ 6 < A.length + B.length) ∨ A.flatten.length + B.flatten.length ≤ 24 ∧ A.length + B.length ≤ 6 ∧ (rFl X z 3 r ∧ allF St ∨ ∃ f, lstF St f ∧ rKp X z f (A ++ shN (A.flatten.length / 2) B) (fun k => if k < A.flatten.length / 2 then sg k else sg' (k - A.flatten.length / 2)) r))
  have h1 := gI_1 (c := 0) h
  have hR1 := relR_1 (c := 0) hR
  have c1 : ((∀ d, d < 40 → x = nI d → St d = none) ∨ ∀ d, d < 40 → x' = nI d → St d = none) → Tt (fun K k => q_X13_apart K k 1 x x' (usF z 1 0)) Q := by
    intro hno
    refine u_X13_apart_1 ?_; unfold qm_X13_apart_1
    exact w_mono (w_failX (k := 1) h1 fr_1) (fun r hr => Or.inl ⟨hr, hno⟩)
  refine e_X13_apart ?_
  refine u_X13_apart_0 ?_; unfold qm_X13_apart_0
  refine w_wrF (w_hasX hR1 (fun h0 => w_ifT rfl (c1 (Or.inl h0))) (fun d9 A sg hd9 hx hs hv hne => w_ifF (by decide) (w_hasX hR1 (fun h0 => w_ifT rfl (c1 (Or.inr h0))) (fun e9 B sg2 he9 hy hs2 hw hne2 => w_ifF (by decide) ?_))))
  have op1 := to_open pn1 hd9 hv
  rw [← hx] at op1
  refine w_cs0 op1 (fun z2 ⟨o1, f1⟩ => ?_)
  have h2 : gI X z2 := gI_net pn1 f1 (fun g hg => by omega) h1
  have hw2 : vRow z2 12 (32 * e9) B sg2 := ⟨rc_fr f1 (by omega) hw.1, hw.2⟩
  have op2 := to_open pn2 he9 hw2
  rw [← hy] at op2
  refine w_cs0 op2 (fun z3 ⟨o2, f2⟩ => ?_)
  have h3 : gI X z3 := gI_net pn2 f2 (fun g hg => by omega) h2
  have o1' := oNet_fr f2 (fun g hg => by omega) o1
  have l1 := o1.len
  have l2 := o2.len
  have k1 := o1.2.2.2
  have k2 := o2.2.2.2
  obtain ⟨a, ha, ha12⟩ := o1.2.2.1
  obtain ⟨b, hb, hb12⟩ := o2.2.2.1
  have hVa := okF_len ha
  have hVb := okF_len hb
  have f03 : fr rPs z z3 := fr_tr fr_1 (fr_tr (fr_mono (fun g hg => Or.inr (by unfold rSc; omega)) f1) (fr_mono (fun g hg => Or.inr (by unfold rSc; omega)) f2))
  have hR3 : relR z3 St := relR_fr f2 (by omega) (relR_fr f1 (by omega) hR1)
  have z31 : z3.1 1 = 0 := by
    rw [(f2 1 (by omega)).1, (f1 1 (by omega)).1]
    exact po_usF_at
  have fin : ∀ {r}, (rFl X z 2 r ∧ (24 < A.flatten.length + B.flatten.length ∨ 6 < A.length + B.length) ∨ A.flatten.length + B.flatten.length ≤ 24 ∧ A.length + B.length ≤ 6 ∧ (rFl X z 3 r ∧ allF St ∨ ∃ f, lstF St f ∧ rKp X z f (A ++ shN (A.flatten.length / 2) B) (fun k => if k < A.flatten.length / 2 then sg k else sg2 (k - A.flatten.length / 2)) r)) → Q r := fun hr => Or.inr ⟨d9, A, sg, e9, B, sg2, hd9, hx, hs, he9, hy, hs2, hr⟩
  have c2 : (24 < A.flatten.length + B.flatten.length ∨ 6 < A.length + B.length) → Tt (fun K k => q_X13_apart K k 2 x x' z3) Q := by
    intro hno
    refine u_X13_apart_2 ?_; unfold qm_X13_apart_2
    exact w_mono (w_failX (k := 2) h3 f03) (fun r hr => fin (Or.inl ⟨hr, hno⟩))
  refine w_rdF o1'.1.V (w_rdF o2.1.V ?_)
  rw [nI_add]
  refine w_lt (a := 24) (by omega) (by omega) (fun h9 => c2 (Or.inl h9)) (fun h24 => w_rdF (lk_C o1'.1) (w_rdF (lk_C o2.1) ?_))
  rw [nI_add]
  refine w_le (b := 6) (by omega) (by omega) (fun h6 => w_freeX hR3 (fun hall => w_ifT rfl (w_mono (w_failX (k := 3) h3 f03) (fun r hr => fin (Or.inr ⟨by omega, h6, Or.inl ⟨hr, hall⟩⟩)))) (fun f hfr => w_ifF (rn_neg1 (by have := hfr.1; omega)) (w_cs0 (tn_clear pn3) (fun z4 ⟨b4, f4⟩ => ?_)))) (fun h9 => c2 (Or.inr h9))
  have o4 := oNet_fr f4 (fun g hg => by omega) o1'
  have o4b := oNet_fr f4 (fun g hg => by omega) o2
  refine w_cs0 (xr_addNet (O := []) (s := 0) pn1 (by omega) o4 ha (by show 0 + _ ≤ _; omega) (by show 0 + _ ≤ _; omega) (by omega) b4) (fun z5 ⟨b5, f5, s5, _⟩ => ?_)
  have o5 := oNet_fr f5 (fun g hg => by omega) o4
  have o5b := oNet_fr f5 (fun g hg => by omega) o4b
  have esh : [] ++ shN 0 A = A := by
    rw [List.nil_append]
    unfold shN
    conv => rhs; rw [← List.map_id A]
    refine List.map_congr_left (fun L _ => ?_)
    conv => rhs; rw [← List.map_id L]
    exact List.map_congr_left (fun p _ => rfl)
  rw [esh] at b5
  refine w_rdF o5.1.V (w_nzI (by decide) ?_)
  have ea : A.flatten.length / 2 = a := by omega
  rw [show nI A.flatten.length / 2 = nI a from by rw [show nI A.flatten.length / 2 = nI (A.flatten.length / 2) from pk_div (d := 2) (by omega) (by omega) (by omega), ea]]
  refine w_cs0 (xr_addNet (O := A) (s := a) pn2 (by omega) o5b hb (by omega) (by omega) (by omega) b5) (fun z6 ⟨b6, f6, s6, t6⟩ => ?_)
  have F36 : fr (fun g => 3001 ≤ g ∧ g ≤ 3006) z3 z6 := fr_tr (fr_mono (fun g hg => by omega) f4) (fr_tr f5 f6)
  have ok12 := app_ok ha hb
  have wk12 := okF_wk (by omega) ok12
  rw [ea] at fin
  refine w_mono (w_keepX (z0 := z) (sg2 := fun k => if k < a then sg k else sg2 (k - a)) (gI_net pn3 F36 (fun g hg => by omega) h3) (relR_fr F36 (by omega) hR3) hfr (by rw [(F36 1 (by omega)).1]; exact z31) (fr_tr f03 (fr_mono (fun g hg => Or.inr (by unfold rSc; omega)) F36)) b6 (fun p hp => ?_) wk12 (by rw [okF_len ok12]; omega) (by rw [List.length_append]; unfold shN; rw [List.length_map]; exact h6)) (fun r hr => fin (Or.inr ⟨by omega, h6, Or.inr ⟨f, hfr, hr⟩⟩))
  show z6.2.1 3006 p.1 = if (if p.1 < a then sg p.1 else sg2 (p.1 - a)) = true then -1 else 1
  rw [List.flatten_append] at hp
  rcases List.mem_append.mp hp with hpa | hpb
  · have hlt := ((ha.2 p).mp hpa).1
    rw [if_pos hlt, t6 _ hlt]
    have := s5 _ hlt
    rw [Nat.add_zero] at this
    rw [this]
    exact o4.2.1 p hpa
  · rw [shN_fl] at hpb
    obtain ⟨q, hq, rfl⟩ := List.mem_map.mp hpb
    have hlt := ((hb.2 q).mp hq).1
    show z6.2.1 3006 (q.1 + a) = if (if q.1 + a < a then sg (q.1 + a) else sg2 (q.1 + a - a)) = true then -1 else 1
    have e9 : (if q.1 + a < a then sg (q.1 + a) else sg2 (q.1 + a - a)) = sg2 q.1 := by rw [if_neg (by omega), Nat.add_sub_cancel]
    rw [e9, s6 _ hlt]
    exact o5b.2.1 q hq
end XA
end
section
/-! 99zzzzzzzzzd.iap -/
/-! nets side by side: what they show, and plane -/
section IAP
variable {A B : rn_L} {sg sg' : Nat → Bool} {f f' : Nat → Nat} {T R : ow_NT} {k : Nat}
theorem ntA_lo (N M : Nat → Nat) {j : Nat} (hj : j < 2 * T.1) : np_app N M (2 * T.1) (2 * R.1) j = N j := if_neg (by omega)
theorem ntA_hi (N M : Nat → Nat) {j : Nat} (hj : j < 2 * R.1) : np_app N M (2 * T.1) (2 * R.1) (2 * T.1 + j) = 2 * T.1 + M j := by
  unfold np_app
  rw [if_pos (by omega), show 2 * T.1 + j - 2 * T.1 = j by omega]
theorem ntA_g0 {x : Nat} (hx : x < T.1) : (ntA T R).2.2.2 x = T.2.2.2 x := by
  show va_cpy R.2.2.2 T.2.2.2 0 T.1 R.1 x = _
  unfold va_cpy
  rw [if_neg (by omega)]
theorem ntA_g1 {x : Nat} (hx : x < R.1) : (ntA T R).2.2.2 (T.1 + x) = R.2.2.2 x := by
  show va_cpy R.2.2.2 T.2.2.2 0 T.1 R.1 (T.1 + x) = _
  unfold va_cpy
  rw [if_pos (by omega), show 0 + (T.1 + x - T.1) = x by omega]
theorem pm1_A (hT : pm1 T) (hR : pm1 R) : pm1 (ntA T R) := fun x hx => by
  have hx : x < T.1 + R.1 := hx
  by_cases e : x < T.1
  · rw [ntA_g0 e]
    exact hT x e
  · obtain ⟨j, rfl⟩ : ∃ j, x = T.1 + j := ⟨x - T.1, by omega⟩
    rw [ntA_g1 (show j < R.1 by omega)]
    exact hR j (by omega)
theorem pl_app (hT : nv T) (hR : nv R) (h12 : T.1 + R.1 ≤ 12) (hp : nt_plane T = true) (hq : nt_plane R = true) : nt_plane (ntA T R) = true := by
  obtain ⟨a1, -, -, -, -⟩ := ntA_ok hT hR h12
  rw [plane_iff a1 h12]
  refine un_sup (c := T.1 + R.1) (ψA := fun v => v) (ψB := fun v => 2 * T.1 + v) a1 hT.1 hR.1 (fun v hv => ⟨show v < 2 * (T.1 + R.1) by omega, ntA_lo _ _ hv, rfl, ?_⟩) (fun v hv => ⟨show 2 * T.1 + v < 2 * (T.1 + R.1) by omega, ntA_hi _ _ hv, ?_, ?_⟩) ⟨rfl, fun u v _ _ e => e, fun u v _ _ e => Nat.add_left_cancel e, fun u v hu _ e => by have e : u = 2 * T.1 + v := e; omega⟩ ((plane_iff hT.1 hT.2.1).mp hp) ((plane_iff hR.1 hR.2.1).mp hq)
  · show stG (ntA T R).2.2.2 v = stG T.2.2.2 v
    unfold stG
    rw [ntA_g0 (show v / 2 < T.1 by omega)]
  · show mt (2 * T.1 + v) = 2 * T.1 + mt v
    unfold mt
    split <;> split <;> omega
  · show stG (ntA T R).2.2.2 (2 * T.1 + v) = stG R.2.2.2 v
    unfold stG
    rw [show (2 * T.1 + v) / 2 = T.1 + v / 2 by omega, show (2 * T.1 + v) % 2 = v % 2 by omega, ntA_g1 (show v / 2 < R.1 by omega)]
theorem cirs_app2 (A B : rn_L) : cirs (A ++ B) = cirs A + cirs B := by
  unfold cirs
  rw [List.countP_append]
theorem iso_app (h : isoV A sg f T) (h' : isoV B sg' f' R) (hv : vn (ntA T R).1 (ntA T R).2.2.1) (h12 : T.1 + R.1 ≤ 12) (hA : ∀ p, p ∈ A.flatten → p.1 < k) (hB : ∀ p, p ∈ B.flatten → p.1 + k < 40) : isoV (A ++ shN k B) (fun x => if x < k then sg x else sg' (x - k)) (fun x => if x < k then f x else T.1 + f' (x - k)) (ntA T R) := by
  have fl : (A ++ shN k B).flatten = A.flatten ++ B.flatten.map (shv k) := by
    rw [List.flatten_append, shN_fl]
    rfl
  have glA : ∀ p, p ∈ A.flatten → gl (fun x => if x < k then f x else T.1 + f' (x - k)) p = gl f p := fun p hp => by
    show 2 * (if p.1 < k then f p.1 else T.1 + f' (p.1 - k)) + p.2 = 2 * f p.1 + p.2
    rw [if_pos (hA p hp)]
  have glB : ∀ q : vT, gl (fun x => if x < k then f x else T.1 + f' (x - k)) (shv k q) = 2 * T.1 + gl f' q := fun q => by
    show 2 * (if q.1 + k < k then f (q.1 + k) else T.1 + f' (q.1 + k - k)) + q.2 = 2 * T.1 + (2 * f' q.1 + q.2)
    rw [if_neg (by omega), Nat.add_sub_cancel]
    omega
  refine isoV_of (isoS_iff.mp ⟨?_, ?_, h12, ?_, ?_, ?_, ?_, ?_⟩) hv
  · rw [fl]
    refine ⟨List.nodup_append.mpr ⟨h.1.1.1, nodup_map h'.1.1.1 (fun p q _ _ e => ?_), fun p hp q hq e => ?_⟩, fun p hp => ?_⟩
    · unfold shv at e
      have e1 := congrArg Prod.fst e
      have e2 := congrArg Prod.snd e
      dsimp only at e1 e2
      exact Prod.ext (by omega) e2
    · obtain ⟨q0, -, rfl⟩ := List.mem_map.mp hq
      have := hA p hp
      rw [e] at this
      have this : q0.1 + k < k := this
      omega
    · rcases List.mem_append.mp hp with hp | hp
      · obtain ⟨a1, a2, a3⟩ := h.1.1.2 p hp
        exact ⟨a1, a2, List.mem_append_left _ a3⟩
      · obtain ⟨q, q1, rfl⟩ := List.mem_map.mp hp
        obtain ⟨a1, a2, a3⟩ := h'.1.1.2 q q1
        exact ⟨hB q q1, a2, List.mem_append_right _ (List.mem_map.mpr ⟨_, a3, rfl⟩)⟩
  · rw [fl, List.length_append, List.length_map, h.1.2.1, h'.1.2.1]
    show 2 * T.1 + 2 * R.1 = 2 * (T.1 + R.1)
    omega
  · intro p hp
    rw [fl] at hp
    show (if p.1 < k then f p.1 else T.1 + f' (p.1 - k)) < T.1 + R.1
    rcases List.mem_append.mp hp with hp | hp
    · rw [if_pos (hA p hp)]
      have := h.1.2.2.2.1 p hp
      omega
    · obtain ⟨q, q1, rfl⟩ := List.mem_map.mp hp
      show (if q.1 + k < k then _ else T.1 + f' (q.1 + k - k)) < _
      rw [if_neg (by omega), Nat.add_sub_cancel]
      have := h'.1.2.2.2.1 q q1
      omega
  · intro p q hp hq e
    rw [fl] at hp hq
    have e : (if p.1 < k then f p.1 else T.1 + f' (p.1 - k)) = (if q.1 < k then f q.1 else T.1 + f' (q.1 - k)) := e
    rcases List.mem_append.mp hp with hp | hp
    · have b1 := h.1.2.2.2.1 p hp
      rw [if_pos (hA p hp)] at e
      rcases List.mem_append.mp hq with hq | hq
      · rw [if_pos (hA q hq)] at e
        exact h.1.2.2.2.2.1 p q hp hq e
      · obtain ⟨q0, q1, rfl⟩ := List.mem_map.mp hq
        rw [if_neg (show ¬ (shv k q0).1 < k by show ¬ q0.1 + k < k; omega)] at e
        omega
    · obtain ⟨p0, p1, rfl⟩ := List.mem_map.mp hp
      have e : (if p0.1 + k < k then f (p0.1 + k) else T.1 + f' (p0.1 + k - k)) = _ := e
      rw [if_neg (by omega), Nat.add_sub_cancel] at e
      rcases List.mem_append.mp hq with hq | hq
      · have b1 := h.1.2.2.2.1 q hq
        rw [if_pos (hA q hq)] at e
        omega
      · obtain ⟨q0, q1, rfl⟩ := List.mem_map.mp hq
        have e : T.1 + f' p0.1 = (if q0.1 + k < k then f (q0.1 + k) else T.1 + f' (q0.1 + k - k)) := e
        rw [if_neg (by omega), Nat.add_sub_cancel] at e
        show p0.1 + k = q0.1 + k
        rw [h'.1.2.2.2.2.1 p0 q0 p1 q1 (by omega)]
  · intro L hL p hp
    rcases List.mem_append.mp hL with hL | hL
    · have pF : p ∈ A.flatten := List.mem_flatten.mpr ⟨L, hL, hp⟩
      have sF : sc L p ∈ A.flatten := List.mem_flatten.mpr ⟨L, hL, sc_in hp (L_nd h.1.1.1 hL)⟩
      rw [glA p pF, glA _ sF, ← (h.2 L hL p hp).1]
      exact ntA_lo _ _ (gl_lt h pF)
    · obtain ⟨L0, l1, rfl⟩ := List.mem_map.mp hL
      obtain ⟨q, q1, rfl⟩ := List.mem_map.mp hp
      have nL := L_nd h'.1.1.1 l1
      have qF : q ∈ B.flatten := List.mem_flatten.mpr ⟨L0, l1, q1⟩
      have es : sc (L0.map (fun p => (p.1 + k, p.2))) (q.1 + k, q.2) = shv k (sc L0 q) := sc_map (s := shv k) nL (fun a b _ _ e => by
        have e1 := congrArg Prod.fst e
        have e2 := congrArg Prod.snd e
        have e1 : a.1 + k = b.1 + k := e1
        exact Prod.ext (by omega) e2) q1
      rw [es, glB, show gl (fun x => if x < k then f x else T.1 + f' (x - k)) (q.1 + k, q.2) = 2 * T.1 + gl f' q from glB q, ← (h'.2 L0 l1 q q1).1]
      exact ntA_hi _ _ (gl_lt h' qF)
  · intro p hp
    rw [fl] at hp
    show (ntA T R).2.2.2 (if p.1 < k then f p.1 else T.1 + f' (p.1 - k)) < 0 ↔ (if p.1 < k then sg p.1 else sg' (p.1 - k)) = true
    rcases List.mem_append.mp hp with hp | hp
    · rw [if_pos (hA p hp), if_pos (hA p hp), ntA_g0 (h.1.2.2.2.1 p hp)]
      exact h.1.2.2.2.2.2.2.1 p hp
    · obtain ⟨q, q1, rfl⟩ := List.mem_map.mp hp
      show (ntA T R).2.2.2 (if q.1 + k < k then f (q.1 + k) else T.1 + f' (q.1 + k - k)) < 0 ↔ (if q.1 + k < k then sg (q.1 + k) else sg' (q.1 + k - k)) = true
      rw [if_neg (by omega), if_neg (by omega), Nat.add_sub_cancel, ntA_g1 (h'.1.2.2.2.1 q q1)]
      exact h'.1.2.2.2.2.2.2.1 q q1
  · have hc : cirs (shN k B) = cirs B := cirs_map (g := fun p => (p.1 + k, p.2)) B
    rw [cirs_app2, hc, h.1.2.2.2.2.2.2.2, h'.1.2.2.2.2.2.2.2]
    rfl
end IAP
end
section
/-! 99zzzzzzzzze.xca -/
/-! exact calls of the class: apart, join's beginning -/
/-- a net that was loaded: what it shows, its signs, plane -/
def ldN (y : ow_MS) (h : Nat) (A : rn_L) (sg : Nat → Bool) (T : ow_NT) : Prop := shA y h A sg T ∧ isoV A sg (fun x => x) T ∧ pm1 T ∧ nt_plane T = true
section XCA
variable {vl : Nat → Nat} {y : ow_MS} {St : plT} {x x' : Int32}
theorem xc_ldh {h d c : Nat} {A : rn_L} {sg : Nat → Bool} (hh : nH h) (hN : gN y) (hd : d < 40) (hs : slC y 1000 d (clC sg A)) (hA : okL A c) (hp : plnA A sg) : Te (fun K => ce_X7_load vl K h 1000 (nI d) y) (fun y1 => gN y1 ∧ fr (cL h) y y1 ∧ ∃ T, ldN y1 h A sg T ∧ T.1 = c) := by
  refine w_monoE (tc_ld3 hh hN hd hs hA) ?_
  rintro y2 ⟨g1, g2, S, G, g3, g4⟩
  have hV : isoV A sg (fun x => x) (c, cirs A, S, G) := isoV_of g4.2.1 g4.2.2.1
  exact ⟨g1, g2, _, ⟨g3, hV, jn_pm1 g4, hp _ _ hV (jn_pm1 g4)⟩, rfl⟩
theorem xc_loadBoth {d e c c' j : Nat} {A B : rn_L} {sg sg' : Nat → Bool} (hN : gN y) (hC : relC y St) (hd : d < 40) (he : e < 40) (hs : slC y 1000 d (clC sg A)) (hA : okL A c) (hpA : plnA A sg) (hs' : slC y 1000 e (clC sg' B)) (hB : okL B c') (hpB : plnA B sg') (hne : A ≠ []) (hj : j ≤ 1) : Te (fun K => ce_X11_loadBoth vl K 0 (nI d) (nI e) (nI j) y) (fun r => gN r.2 ∧ fr uP y r.2 ∧ relC r.2 St ∧ (∀ d C, slC y 1000 d C → slC r.2 1000 d C) ∧ (r.1 = 0 ∧ c + c' ≤ 12 ∧ A.length + B.length - j ≤ 6 ∧ (∃ T R, ldN r.2 4000 A sg T ∧ ldN r.2 5000 B sg' R ∧ T.1 = c ∧ R.1 = c') ∨ r.1 = 4 ∧ (12 < c + c' ∨ 6 < A.length + B.length - j))) := by
  refine e_X11_loadBoth ?_; unfold cm_X11_loadBoth_0
  refine w_cs0 (xc_ldh nH4 hN hd hs hA hpA) ?_
  rintro y1 ⟨hN1, f1, T, hT, hT1⟩
  have f1u : fr uP y y1 := fr_mono (fun g hg => by unfold cL at hg; unfold uP; omega) f1
  have sl1 : ∀ d C, slC y 1000 d C → slC y1 1000 d C := fun d C h => slC_fr f1 (fun q hq h9 => by unfold cW at hq; unfold cL at h9; omega) h
  refine w_cs0 (xc_ldh nH5 hN1 he (sl1 _ _ hs') hB hpB) ?_
  rintro y2 ⟨hN2, f2, R, hR, hR1⟩
  have f2u : fr uP y y2 := fr_tr f1u (fr_mono (fun g hg => by unfold cL at hg; unfold uP; omega) f2)
  have sl2 : ∀ d C, slC y 1000 d C → slC y2 1000 d C := fun d C h => slC_fr f2 (fun q hq h9 => by unfold cW at hq; unfold cL at h9; omega) (sl1 d C h)
  have hC2 : relC y2 St := relC_fr f2 (fun q hq h9 => by unfold cW at hq; unfold cL at h9; omega) (relC_fr f1 (fun q hq h9 => by unfold cW at hq; unfold cL at h9; omega) hC)
  have k4 : ∀ g, 4001 ≤ g → g ≤ 4011 → ¬ cL 5000 g := fun g g1 g2 h9 => by unfold cL at h9; omega
  have hT2' : shA y2 4000 A sg T := by
    obtain ⟨a1, a2, a3, a4, a5, a6⟩ := hT.1
    refine ⟨cAt_fr f2 (fun g hg => k4 g (by unfold cP at hg; omega) (by unfold cP at hg; omega)) a1, a2, a3, fun i q e => ?_, fun v hv => ?_, ?_⟩
    · rw [(f2 4004 (k4 _ (by omega) (by omega))).2.1]
      exact a4 i q e
    · rw [(f2 4005 (k4 _ (by omega) (by omega))).2.1]
      exact a5 v hv
    · rw [(f2 4010 (k4 _ (by omega) (by omega))).1]
      exact a6
  have t12 := hT.1.2.2.1.2.1
  have r12 := hR.1.2.2.1.2.1
  have hA6 := hA.2.2.2.2
  have hB6 := hB.2.2.2.2
  have hA1 : 1 ≤ A.length := List.length_pos_iff.mpr hne
  refine w_rdF hT2'.1.1 (w_rdF hR.1.1.1 ?_)
  rw [nI_add]
  refine w_lt (a := 12) (by omega) (by omega) (fun h9 => w_some ⟨hN2, f2u, hC2, sl2, Or.inr ⟨rfl, Or.inl (by omega)⟩⟩) (fun h9 => w_rdF hT2'.2.2.2.2.2 (w_rdF hR.1.2.2.2.2.2 ?_))
  rw [nI_add, show nI (A.length + B.length) - nI j = nI (A.length + B.length - j) from pk_sub (by omega)]
  refine w_le (b := 6) (by omega) (by omega) (fun h6 => w_some ⟨hN2, f2u, hC2, sl2, Or.inl ⟨rfl, by omega, h6, T, R, ⟨hT2', hT.2⟩, hR, hT1, hR1⟩⟩) (fun h9 => w_some ⟨hN2, f2u, hC2, sl2, Or.inr ⟨rfl, Or.inr h9⟩⟩)
theorem xc_apart (hN : gN y) (hC : relC y St) (hS : okS St) : Te (fun K => ce_X11_apart vl K 0 x x' y) (fun r => r.1 = 1 ∧ gN r.2.2 ∧ fr uP y r.2.2 ∧ relC r.2.2 St ∧ ((∀ d, d < 40 → x = nI d → St d = none) ∨ ∀ d, d < 40 → x' = nI d → St d = none) ∨ ∃ d A sg e B sg', d < 40 ∧ x = nI d ∧ St d = some (A, sg) ∧ e < 40 ∧ x' = nI e ∧ St e = some (B, sg') ∧ (r.1 = 4 ∧ gN r.2.2 ∧ fr uP y r.2.2 ∧ relC r.2.2 St ∧ (24 < A.flatten.length + B.flatten.length ∨ 6 < A.length + B.length) ∨ A.flatten.length + B.flatten.length ≤ 24 ∧ A.length + B.length ≤ 6 ∧ (r.1 = 3 ∧ gN r.2.2 ∧ fr uP y r.2.2 ∧ relC r.2.2 St ∧ allF St ∨ r.1 = 0 ∧ ∃ f, lstF St f ∧ cKp y f (A ++ shN (A.flatten.length / 2) B) (fun k => if k < A.flatten.length / 2 then sg k else sg' (k - A.flatten.length / 2)) r.2))) := by
  refine e_X11_apart ?_; unfold cm_X11_apart_0
  refine w_tc0 (xc_need hN.1 hC hS) ?_ ?_
  · rintro y1 ⟨h1, rfl⟩
    rcases h1 with h1 | ⟨-, d, A, sg, c, hd, rfl, hSt, hs, hA, hne, hpl⟩
    · exact absurd (show (0 : Nat) = 1 from h1.1) (by decide)
    · refine w_tc0 (xc_need hN.1 hC hS) ?_ ?_
      · rintro y2 ⟨h2, rfl⟩
        rcases h2 with h2 | ⟨-, e, B, sg', c', he, rfl, hSt', hs', hB, hne', hpl'⟩
        · exact absurd (show (0 : Nat) = 1 from h2.1) (by decide)
        · have lA := okF_len hA.1
          have lB := okF_len hB.1
          have ea : A.flatten.length / 2 = c := by omega
          refine w_tc0 (xc_loadBoth (j := 0) hN hC hd he hs hA hpl hs' hB hpl' hne (by omega)) ?_ ?_
          · rintro y3 ⟨hN3, f3, hC3, sl3, h3⟩
            rcases h3 with ⟨-, h12, h6, T, R, hT, hR, eT, eR⟩ | h3
            · have h12' : T.1 + R.1 ≤ 12 := by omega
              refine w_tc1 (xc_free hN3.1 hC3 hS) ?_ ?_
              · rintro v y4 ⟨h4, rfl⟩
                rcases h4 with h4 | ⟨-, q, rfl, hq⟩
                · exact absurd (show (0 : Nat) = 3 from h4.1) (by decide)
                · refine w_cs0 (tc_append nH4 nH5 (by unfold nDj; omega) hT.1.1 hR.1.1 h12') ?_
                  rintro y5 ⟨g1, g2⟩
                  have g1 : cAt y5 4000 (ntA T R) := g1
                  have nT := hT.1.2.2.1
                  have nR := hR.1.2.2.1
                  obtain ⟨a1, a2, a3, -, -⟩ := ntA_ok nT nR h12'
                  have r1 := iso_rg hT.1.2.1
                  have r2 := iso_rg hR.1.2.1
                  have hv : nv (ntA T R) := ⟨a1, h12', a2, by
                    rw [a3]
                    show np_rg T.1 T.2.2.1 + np_rg R.1 R.2.2.1 + (T.2.1 + R.2.1) ≤ 6
                    omega⟩
                  refine w_cs1 (tc_keep (gN_net nH4 g2 (fun g hg => by unfold cP at hg; omega) ⟨_, g1, a2⟩ hN3) hq.1 g1 hv) ?_
                  rintro r y6 ⟨q0, q1, q2, ⟨Cs, os, q3, q4⟩, q5, -⟩
                  have c12 := hA.2.2.2.1
                  have d12 := hB.2.2.2.1
                  have hV3 := iso_app (k := A.flatten.length / 2) hT.2.1 hR.2.1 a1 h12' (fun p hp => by rw [ea]; exact ((hA.1.2 p).mp hp).1) (fun p hp => by have := ((hB.1.2 p).mp hp).1; omega)
                  exact w_some (Or.inr ⟨d, A, sg, e, B, sg', hd, rfl, hSt, he, rfl, hSt', Or.inr ⟨by omega, by omega, Or.inr ⟨rfl, q, hq, q0, q1, fr_tr f3 (fr_tr (fr_mono (fun g hg => by unfold cP at hg; unfold uP; omega) g2) q2), ⟨ntA T R, _, Cs, os, hv, pm1_A hT.2.2.1 hR.2.2.1, hV3, pl_app nT nR h12' hT.2.2.2 hR.2.2.2, q3, q4⟩, fun d' C' h1 h2 h3 => q5 d' C' h1 h2 (slC_fr g2 (fun q hq h9 => by unfold cW at hq; unfold cP at h9; omega) (sl3 d' C' h3))⟩⟩⟩)
              · rintro a v y4 ha ⟨h4, rfl⟩
                rcases h4 with h4 | h4
                · exact w_some (Or.inr ⟨d, A, sg, e, B, sg', hd, rfl, hSt, he, rfl, hSt', Or.inr ⟨by omega, by omega, Or.inl ⟨h4.1, hN3, f3, hC3, h4.2⟩⟩⟩)
                · exact absurd h4.1 ha
            · exact absurd (show (0 : Nat) = 4 from h3.1) (by decide)
          · rintro a y3 ha ⟨hN3, f3, hC3, sl3, h3⟩
            rcases h3 with h3 | h3
            · exact absurd h3.1 ha
            · exact w_some (Or.inr ⟨d, A, sg, e, B, sg', hd, rfl, hSt, he, rfl, hSt', Or.inl ⟨h3.1, hN3, f3, hC3, by omega⟩⟩)
      · rintro a y2 ha ⟨h2, rfl⟩
        rcases h2 with h2 | h2
        · exact w_some (Or.inl ⟨h2.1, hN, fr_rf, hC, Or.inr h2.2⟩)
        · exact absurd h2.1 ha
  · rintro a y1 ha ⟨h1, rfl⟩
    rcases h1 with h1 | h1
    · exact w_some (Or.inl ⟨h1.1, hN, fr_rf, hC, Or.inl h1.2⟩)
    · exact absurd h1.1 ha
end XCA
end
section
/-! 99zzzzzzzzzf.xrv -/
/-! exact calls of the reference: reverse -/
def tLL (t : Bool) (L : List (Nat × Nat)) : List (Nat × Nat) := if t then L.reverse else L
def rvX (τ : Nat → Bool) (A : rn_L) (m : Nat) : rn_L := (List.range m).map (fun k => tLL (τ k) (A.getD k []))
theorem rvX_s {τ : Nat → Bool} {A : rn_L} {m : Nat} : rvX τ A (m + 1) = rvX τ A m ++ [tLL (τ m) (A.getD m [])] := by
  unfold rvX
  rw [List.range_succ, List.map_append]
  rfl
theorem tLL_len {t : Bool} {L : List (Nat × Nat)} : (tLL t L).length = L.length := by
  unfold tLL
  split
  · exact List.length_reverse
  · rfl
theorem gD_len {A : rn_L} {m : Nat} (hm : m < A.length) : (A.getD m []).length = rn_b A (m + 1) - rn_b A m := by
  have hb := rnb_s hm
  rw [List.getD_eq_getElem?_getD, List.getElem?_eq_getElem hm]
  show (A[m]).length = _
  omega
theorem rvX_len {τ : Nat → Bool} {A : rn_L} : ∀ {m : Nat}, m ≤ A.length → (rvX τ A m).flatten.length = rn_b A m
  | 0, _ => rfl
  | m + 1, h => by
    rw [rvX_s, List.flatten_append, List.length_append, rvX_len (by omega)]
    show rn_b A m + ([tLL (τ m) (A.getD m [])].flatten).length = _
    have h2 := gD_len (show m < A.length by omega)
    have h3 := rn_b_mono A m
    rw [List.flatten_cons, List.flatten_nil, List.append_nil, tLL_len, h2]
    omega
theorem tLL_at {A : rn_L} {t : Bool} {m i v : Nat} (hm : m < A.length) (hi : i < rn_b A (m + 1) - rn_b A m) (hv : v = if t then rn_b A (m + 1) - 1 - i else rn_b A m + i) : (tLL t (A.getD m []))[i]? = some (vAt A v) := by
  have hl := gD_len hm
  cases t with
  | false =>
    have hv : v = rn_b A m + i := hv
    have := cmp_at hm (show rn_b A m ≤ v by omega) (by omega)
    rw [show v - rn_b A m = i by omega] at this
    exact this
  | true =>
    have hv : v = rn_b A (m + 1) - 1 - i := hv
    have := cmp_at hm (show rn_b A m ≤ v by omega) (by omega)
    show (A.getD m []).reverse[i]? = _
    rw [List.getElem?_reverse (by omega), ← this]
    congr 1
    omega
theorem rc_mem {A : rn_L} {v : Nat} (hv : v < A.flatten.length) : rn_c A v < A.length ∧ vAt A v ∈ A.getD (rn_c A v) [] := by
  obtain ⟨h1, h2, h3⟩ := rn_c_in A v hv
  exact ⟨h1, List.mem_of_getElem? (cmp_at h1 h2 h3)⟩
theorem rc_idx {A : rn_L} (hn : A.flatten.Nodup) {v : Nat} (hv : v < A.flatten.length) : cidx A (vAt A v) = rn_c A v := by
  obtain ⟨h1, h2⟩ := rc_mem hv
  rw [List.getD_eq_getElem?_getD, List.getElem?_eq_getElem h1] at h2
  exact cidx_of hn h1 h2
/-- which components turn -/
def tauC (x : Int32) (k : Nat) : Bool := decide (x = -1) || decide (x = nI k)
def sgT (τ : Nat → Bool) (A : rn_L) (sg : Nat → Bool) (x : Nat) : Bool := if (τ (cidx A (x, 0)) != τ (cidx A (x, 1))) = true then !sg x else sg x
def cokC (A : rn_L) (x : Int32) : Prop := x = -1 ∨ ∃ k, k < A.length ∧ x = nI k
theorem tLL_mem {t : Bool} {L : List (Nat × Nat)} {p : Nat × Nat} : p ∈ tLL t L ↔ p ∈ L := by
  unfold tLL
  split
  · exact List.mem_reverse
  · exact Iff.rfl
theorem rvX_perm {τ : Nat → Bool} {A : rn_L} : (rvX τ A A.length).flatten.Perm A.flatten := by
  have key : ∀ m, m ≤ A.length → (rvX τ A m).flatten.Perm (A.take m).flatten := by
    intro m
    induction m with
    | zero => intro _; exact List.Perm.refl _
    | succ m ih =>
      intro h
      rw [rvX_s, tk_snoc (show m < A.length by omega), List.flatten_append, List.flatten_append]
      refine (ih (by omega)).append ?_
      rw [List.flatten_cons, List.flatten_nil, List.append_nil, List.flatten_cons, List.flatten_nil, List.append_nil]
      unfold tLL
      split
      · exact List.reverse_perm _
      · exact List.Perm.refl _
  have := key A.length (Nat.le_refl _)
  rw [List.take_length] at this
  exact this
theorem wkF_perm {F G : List (Nat × Nat)} (h : F.Perm G) (hG : wkF G) : wkF F := ⟨h.nodup_iff.mpr hG.1, fun p hp => by
  obtain ⟨a1, a2, a3⟩ := hG.2 p (h.mem_iff.mp hp)
  exact ⟨a1, a2, h.mem_iff.mpr a3⟩⟩
theorem vis_two {A : rn_L} (hF : wkF A.flatten) {v : Nat} (hv : v < A.flatten.length) : ∃ v0 v1, v0 < A.flatten.length ∧ v1 < A.flatten.length ∧ vAt A v0 = (crs A v, 0) ∧ vAt A v1 = (crs A v, 1) ∧ mtf A v0 = v1 ∧ mtf A v1 = v0 ∧ ∀ u, u < A.flatten.length → crs A u = crs A v → u = v0 ∨ u = v1 := by
  have hd := wkF_ok hF
  have hm := vAt_mem hv
  have hu := hF.2 _ hm
  have both : (crs A v, 0) ∈ A.flatten ∧ (crs A v, 1) ∈ A.flatten := by
    have e : vAt A v = (crs A v, uns A v) := rfl
    rw [e] at hm hu
    have h2 : uns A v < 2 := hu.2.1
    have h3 : (crs A v, 1 - uns A v) ∈ A.flatten := hu.2.2
    rcases (show uns A v = 0 ∨ uns A v = 1 by omega) with h9 | h9
    · rw [h9] at hm h3
      exact ⟨hm, h3⟩
    · rw [h9] at hm h3
      exact ⟨h3, hm⟩
  obtain ⟨v0, a1, a2⟩ := mem_vAt both.1
  obtain ⟨v1, b1, b2⟩ := mem_vAt both.2
  have all : ∀ u, u < A.flatten.length → crs A u = crs A v → u = v0 ∨ u = v1 := fun u hu9 e => by
    have h2 : uns A u < 2 := (hF.2 _ (vAt_mem hu9)).2.1
    have eu : vAt A u = (crs A v, uns A u) := by rw [← e]; rfl
    rcases (show uns A u = 0 ∨ uns A u = 1 by omega) with h9 | h9
    · left
      rw [h9] at eu
      exact nodup_at hF.1 (vAt_of hu9) (by rw [vAt_of a1, a2, eu])
    · right
      rw [h9] at eu
      exact nodup_at hF.1 (vAt_of hu9) (by rw [vAt_of b1, b2, eu])
  have c0 : crs A v0 = crs A v := by show (vAt A v0).1 = _; rw [a2]
  have c1 : crs A v1 = crs A v := by show (vAt A v1).1 = _; rw [b2]
  refine ⟨v0, v1, a1, b1, a2, b2, ?_, ?_, all⟩
  · exact (all _ (mtf_lt hd a1) ((crs_mtf hd a1).trans c0)).resolve_left (mtf_ne hd a1)
  · exact (all _ (mtf_lt hd b1) ((crs_mtf hd b1).trans c1)).resolve_right (mtf_ne hd b1)
theorem sgT_fl {A : rn_L} {c : Int32} (hF : wkF A.flatten) (h39 : A.length ≤ 39) {v : Nat} (hv : v < A.flatten.length) : (∃ u, u < A.flatten.length ∧ crs A u = crs A v ∧ c ≠ -1 ∧ c = nI (rn_c A u) ∧ rn_c A (mtf A u) ≠ rn_c A u) ↔ (tauC c (cidx A (crs A v, 0)) != tauC c (cidx A (crs A v, 1))) = true := by
  obtain ⟨v0, v1, a1, b1, a2, b2, m0, m1, all⟩ := vis_two hF hv
  have i0 := rc_idx hF.1 a1
  have i1 := rc_idx hF.1 b1
  rw [a2] at i0
  rw [b2] at i1
  rw [i0, i1]
  have l0 := (rc_mem a1).1
  have l1 := (rc_mem b1).1
  have c0 : crs A v0 = crs A v := by show (vAt A v0).1 = _; rw [a2]
  have c1 : crs A v1 = crs A v := by show (vAt A v1).1 = _; rw [b2]
  have tt : ∀ k, c ≠ -1 → tauC c k = decide (c = nI k) := fun k h9 => by
    unfold tauC
    rw [decide_eq_false h9, Bool.false_or]
  constructor
  · rintro ⟨u, u1, u2, u3, u4, u5⟩
    rcases all u u1 u2 with rfl | rfl
    · rw [m0] at u5
      rw [tt _ u3, tt _ u3, decide_eq_true u4, decide_eq_false (fun h9 => u5 (nI_inj9 (by omega) (by omega) (h9.symm.trans u4)))]
      rfl
    · rw [m1] at u5
      rw [tt _ u3, tt _ u3, decide_eq_true u4, decide_eq_false (fun h9 => u5 (nI_inj9 (by omega) (by omega) (h9.symm.trans u4)))]
      rfl
  · intro hne
    have u3 : c ≠ -1 := fun h9 => by
      unfold tauC at hne
      rw [decide_eq_true h9] at hne
      cases hne
    rw [tt _ u3, tt _ u3] at hne
    by_cases e0 : c = nI (rn_c A v0)
    · refine ⟨v0, a1, c0, u3, e0, fun e => ?_⟩
      rw [m0] at e
      rw [e, decide_eq_true e0] at hne
      cases hne
    · by_cases e1 : c = nI (rn_c A v1)
      · refine ⟨v1, b1, c1, u3, e1, fun e => ?_⟩
        rw [m1] at e
        rw [e, decide_eq_true e1] at hne
        cases hne
      · rw [decide_eq_false e0, decide_eq_false e1] at hne
        cases hne
section XV
variable {X : (Nat → Nat → Int32) → Prop} {z : ow_MS} {St : plT}
theorem xq_reverse {x c : Int32} (h : gI X z) (hR : relR z St) : Te (fun K => qe_X13_reverse K x c z) (fun r => rFl X z 1 r ∧ (∀ d, d < 40 → x = nI d → St d = none) ∨ ∃ d A sg, d < 40 ∧ x = nI d ∧ St d = some (A, sg) ∧ (rFl X z 1 r ∧ ¬ cokC A c ∨ cokC A c ∧ (rFl X z 2 r ∧ allF St ∨ ∃ e, lstF St e ∧ rKp X z e (rvX (tauC c) A A.length) (sgT (tauC c) A sg) r))) := by
  let Q : Int32 × ow_MS → Prop := fun r => rFl X z 1 r ∧ (∀ d, d < 40 → x = nI d → St d = none) ∨ ∃ d A sg, d < 40 ∧ x = nI d ∧ St d = some (A, sg) ∧ (rFl X z 1 r ∧ ¬ cokC A c ∨ cokC A c ∧ (rFl X z 2 r ∧ allF St ∨ ∃ e, lstF St e ∧ rKp X z e (rvX (tauC c) A A.length) (sgT (tauC c) A sg) r))
  have h1 := gI_1 (c := 0) h
  have hR1 := relR_1 (c := 0) hR
  refine e_X13_reverse ?_
  refine u_X13_reverse_0 ?_; unfold qm_X13_reverse_0
  refine w_wrF (w_hasX hR1 (fun h0 => w_ifT rfl (w_mono (w_failX h1 fr_1) (fun r hr => Or.inl ⟨hr, h0⟩))) (fun e A sg he hx hs hv hne => w_ifF (by decide) ?_))
  subst hx
  refine w_cs0 (to_open pn1 he hv) (fun z2 ⟨o1, f1⟩ => ?_)
  have h2 : gI X z2 := gI_net pn1 f1 (fun g hg => by omega) h1
  have hl := o1.len
  have hd := wkF_ok o1.wk
  have hC := o1.2.2.2
  have f02 : fr rPs z z2 := fr_tr fr_1 (fr_mono (fun g hg => Or.inr (by unfold rSc; omega)) f1)
  have hR2 : relR z2 St := relR_fr f1 (by omega) hR1
  have z21 : z2.1 1 = 0 := by rw [(f1 1 (by omega)).1]; exact po_usF_at
  have fin : ∀ {r}, (rFl X z 1 r ∧ ¬ cokC A c ∨ cokC A c ∧ (rFl X z 2 r ∧ allF St ∨ ∃ e, lstF St e ∧ rKp X z e (rvX (tauC c) A A.length) (sgT (tauC c) A sg) r)) → Q r := fun hr => Or.inr ⟨e, A, sg, he, rfl, hs, hr⟩
  have c1 : ¬ cokC A c → Tt (fun K k => q_X13_reverse K k 1 (nI e) c 0 0 0 0 0 z2) Q := by
    intro hno
    refine u_X13_reverse_1 ?_; unfold qm_X13_reverse_1
    exact w_mono (w_failX (k := 1) h2 f02) (fun r hr => fin (Or.inl ⟨hr, hno⟩))
  refine w_if (fun h9 => c1 (fun hk => ?_)) (fun h8 => w_rdF (lk_C o1.1) (w_if (fun h9 => ?_) (fun h9 => c1 (fun hk => ?_))))
  · rcases hk with rfl | ⟨k, hk, rfl⟩
    · exact absurd h9 (by decide)
    · exact absurd (Int32.lt_trans h9 (show (-1 : Int32) < 0 by decide)) (nI_pos (by omega))
  rotate_left
  · rcases hk with rfl | ⟨k, hk, rfl⟩
    · exact h9 (Int32.lt_of_lt_of_le (show (-1 : Int32) < 0 by decide) (Int32.not_lt.mp (fun h7 => nI_pos (by omega) h7)))
    · exact h9 ((nI_ltI (by omega) (by omega)).mpr hk)
  have hcok : cokC A c := by
    by_cases e0 : c < 0
    · left
      have a1 : ¬ c.toInt < (-1 : Int32).toInt := fun h7 => h8 (Int32.lt_iff_toInt_lt.mpr h7)
      have a2 : c.toInt < (0 : Int32).toInt := Int32.lt_iff_toInt_lt.mp e0
      have a3 : (-1 : Int32).toInt = -1 := by decide
      have a4 : (0 : Int32).toInt = 0 := by decide
      refine Int32.toInt_inj.mp ?_
      omega
    · obtain ⟨k, k31, rfl⟩ := nI_of e0
      exact Or.inr ⟨k, (nI_ltI k31 (by omega)).mp h9, rfl⟩
  refine w_freeX hR2 (fun hall => w_ifT rfl (w_mono (w_failX (k := 2) h2 f02) (fun r hr => fin (Or.inr ⟨hcok, Or.inl ⟨hr, hall⟩⟩)))) (fun f hfr => w_ifF (rn_neg1 (by have := hfr.1; omega)) (w_cs0 (tn_clear pn3) (fun z3 ⟨b3, f3⟩ => w_cs0 (tn_signs pn3 pn1 (by omega)) (fun z4 ⟨f4, s4⟩ => ?_))))
  -- signs changed so far
  let fl : (Nat → Prop) → Nat → Prop := fun pr k => ∃ v, v < A.flatten.length ∧ pr v ∧ crs A v = k ∧ c ≠ -1 ∧ c = nI (rn_c A v) ∧ rn_c A (mtf A v) ≠ rn_c A v
  let J : (Nat → Prop) → ow_MS → Prop := fun pr y => fr (fun g => 3001 ≤ g ∧ g ≤ 3006) z2 y ∧ ∀ v, v < A.flatten.length → (fl pr (crs A v) → y.2.1 3006 (crs A v) = 0 - z2.2.1 1006 (crs A v)) ∧ (¬ fl pr (crs A v) → y.2.1 3006 (crs A v) = z2.2.1 1006 (crs A v))
  have oJ : ∀ {pr : Nat → Prop} {y : ow_MS}, J pr y → oNet y 1000 A sg := fun hj => oNet_fr hj.1 (fun g hg => by omega) o1
  have Jeq : ∀ {pr pr' : Nat → Prop} {y : ow_MS}, (∀ j, pr j ↔ pr' j) → J pr y → J pr' y := fun hpp hj => by
    have : ∀ k, fl _ k ↔ fl _ k := fun k => ⟨fun ⟨v, a1, a2, a3⟩ => ⟨v, a1, (hpp v).mp a2, a3⟩, fun ⟨v, a1, a2, a3⟩ => ⟨v, a1, (hpp v).mpr a2, a3⟩⟩
    exact ⟨hj.1, fun v hv9 => ⟨fun h7 => (hj.2 v hv9).1 ((this _).mpr h7), fun h7 => (hj.2 v hv9).2 (fun h6 => h7 ((this _).mp h6))⟩⟩
  have Jfr : ∀ {pr : Nat → Prop} {y y2 : ow_MS} {P : Nat → Prop}, (∀ g, P g → 3001 ≤ g ∧ g ≤ 3005) → fr P y y2 → J pr y → J pr y2 := fun hP hf hj => ⟨fr_tr hj.1 (fr_mono (fun g hg => by have := hP g hg; omega) hf), fun v hv9 => by
    rw [(hf 3006 (fun h7 => by have := hP _ h7; omega)).2.1]
    exact hj.2 v hv9⟩
  have out : ∀ (k m : Nat) (y : ow_MS), m + k = A.length → J (fun j => j < rn_b A m) y → rn_At y 3000 (rvX (tauC c) A m) [] → Tt (fun K i => q_X13_reverse K i 2 (nI e) c (nI m) 0 0 0 0 y) Q := by
    intro k
    induction k with
    | zero =>
      intro m y hm hj hb
      have hm2 : m = A.length := by omega
      rw [hm2] at hb
      have hlr := rvX_len (τ := tauC c) (A := A) (Nat.le_refl _)
      rw [rn_b_len] at hlr
      have f0y : fr rPs z y := fr_tr f02 (fr_mono (fun g hg => Or.inr (by unfold rSc; omega)) hj.1)
      refine u_X13_reverse_2 ?_; unfold qm_X13_reverse_2
      refine w_rdF (lk_C (oJ hj).1) (w_leT (by omega) (by omega) (w_mono (w_keepX (z0 := z) (sg2 := sgT (tauC c) A sg) (gI_net pn3 hj.1 (fun g hg => by omega) h2) (relR_fr hj.1 (by omega) hR2) hfr (by rw [(hj.1 1 (by omega)).1]; exact z21) f0y hb (fun p hp => ?_) (wkF_perm rvX_perm o1.wk) (by rw [hlr]; exact hl) (by unfold rvX; rw [List.length_map, List.length_range]; exact hC)) (fun r hr => fin (Or.inr ⟨hcok, Or.inr ⟨f, hfr, hr⟩⟩))))
      have hpA := rvX_perm.mem_iff.mp hp
      obtain ⟨v, v1, v2⟩ := mem_vAt hpA
      have hcv : crs A v = p.1 := by unfold crs; rw [v2]
      have hsv := o1.2.1 p hpA
      have hj2 := hj.2 v v1
      rw [hcv] at hj2
      have hm1 := mtf_lt hd v1
      have hm3 := crs_mtf hd v1
      have hm4 := mtf_mtf hd v1
      have key := sgT_fl (c := c) o1.wk (by omega) v1
      rw [hcv] at key
      show y.2.1 3006 p.1 = if sgT (tauC c) A sg p.1 = true then -1 else 1
      have hsv : z2.2.1 1006 p.1 = if sg p.1 then -1 else 1 := hsv
      unfold sgT
      by_cases hT : (tauC c (cidx A (p.1, 0)) != tauC c (cidx A (p.1, 1))) = true
      · rw [if_pos hT]
        obtain ⟨u, u1, u2, u3⟩ := key.mpr hT
        rw [hj2.1 ⟨u, u1, by have := rn_b_len A; rw [← hm2] at this; omega, u2, u3⟩, hsv]
        cases sg p.1 <;> rfl
      · rw [if_neg hT, hj2.2 (fun ⟨u, u1, _, u2, u3⟩ => hT (key.mp ⟨u, u1, u2, u3⟩)), hsv]
    | succ k ih =>
      intro m y hm hj hb
      have hmC : m < A.length := by omega
      have hmono := rn_b_mono A m
      have hble := rn_b_le A (m + 1)
      have hlm := rvX_len (τ := tauC c) (show m ≤ A.length by omega)
      have inn : ∀ (t : Bool), t = tauC c m → ∀ (k i : Nat) (y : ow_MS), i + k = rlen A m → J (fun j => j < rn_b A m ∨ (if t then rn_b A (m + 1) ≤ j + i ∧ j < rn_b A (m + 1) else rn_b A m ≤ j ∧ j < rn_b A m + i)) y → rn_At y 3000 (rvX (tauC c) A m) ((tLL t (A.getD m [])).take i) → Tt (fun K i9 => q_X13_reverse K i9 5 (nI e) c (nI m) (bZ t) (nI i) 0 0 y) Q := by
        intro t ht k
        unfold rlen
        induction k with
        | zero =>
          intro i y hi hj hb
          have o2 := oJ hj
          have etl : (tLL t (A.getD m [])).take i = tLL t (A.getD m []) := by
            have := gD_len hmC
            rw [show i = (tLL t (A.getD m [])).length by rw [tLL_len]; omega, List.take_length]
          rw [etl] at hb
          refine u_X13_reverse_5 ?_; unfold qm_X13_reverse_5
          rw [nI_1]
          refine w_rdI (pl3 pn1) rfl (by omega) (lk_b o2.1 (by omega)) (w_rdI (pl3 pn1) rfl (by omega) (lk_b o2.1 (by omega)) ?_)
          rw [pk_sub hmono]
          refine w_leT (by omega) (by omega) (w_cs0 (tn_end pn3 hb (by unfold rvX; rw [List.length_map, List.length_range]; omega)) (fun y2 ⟨g1, g2⟩ => ?_))
          refine ih (m + 1) y2 (by omega) (Jeq (fun j => ?_) (Jfr (fun g hg => by omega) g2 hj)) ?_
          · cases t
            · simp only [Bool.false_eq_true, if_false]
              omega
            · simp only [if_true]
              omega
          · rw [rvX_s, ← ht]
            exact g1
        | succ k ihk =>
          intro i y hi hj hb
          have o2 := oJ hj
          have hv6 : ∀ v, v < A.flatten.length → rn_b A m ≤ v → v < rn_b A (m + 1) → (v = if t then rn_b A (m + 1) - 1 - i else rn_b A m + i) → Tt (fun K i9 => q_X13_reverse K i9 6 (nI e) c (nI m) (bZ t) (nI i) 0 (nI v) y) Q := by
            intro v hv9 hvb hvb2 hve
            have hml := mtf_lt hd hv9
            have hcm : rn_c A v = m := rn_c_of A m v hvb hvb2
            have hat := tLL_at hmC (show i < rn_b A (m + 1) - rn_b A m by omega) hve
            have hpr : ∀ j, (j < rn_b A m ∨ (if t then rn_b A (m + 1) ≤ j + (i + 1) ∧ j < rn_b A (m + 1) else rn_b A m ≤ j ∧ j < rn_b A m + (i + 1))) ↔ (j < rn_b A m ∨ (if t then rn_b A (m + 1) ≤ j + i ∧ j < rn_b A (m + 1) else rn_b A m ≤ j ∧ j < rn_b A m + i)) ∨ j = v := fun j => by
              cases t
              · simp only [Bool.false_eq_true, if_false] at hve ⊢
                omega
              · simp only [if_true] at hve ⊢
                omega
            have c7 : ∀ (y2 : ow_MS), J (fun j => (j < rn_b A m ∨ (if t then rn_b A (m + 1) ≤ j + i ∧ j < rn_b A (m + 1) else rn_b A m ≤ j ∧ j < rn_b A m + i)) ∨ j = v) y2 → rn_At y2 3000 (rvX (tauC c) A m) ((tLL t (A.getD m [])).take (i + 1)) → Tt (fun K i9 => q_X13_reverse K i9 7 (nI e) c (nI m) (bZ t) (nI i) (nI v) 0 y2) Q := by
              intro y2 hj2 hb2
              refine u_X13_reverse_7 ?_; unfold qm_X13_reverse_7
              rw [nI_1]
              exact ihk (i + 1) y2 (by omega) (Jeq (fun j => (hpr j).symm) hj2) hb2
            -- no sign changes here
            have same : ∀ {y2 : ow_MS}, J (fun j => j < rn_b A m ∨ (if t then rn_b A (m + 1) ≤ j + i ∧ j < rn_b A (m + 1) else rn_b A m ≤ j ∧ j < rn_b A m + i)) y2 → ¬ (c ≠ -1 ∧ c = nI (rn_c A v) ∧ rn_c A (mtf A v) ≠ rn_c A v) → J (fun j => (j < rn_b A m ∨ (if t then rn_b A (m + 1) ≤ j + i ∧ j < rn_b A (m + 1) else rn_b A m ≤ j ∧ j < rn_b A m + i)) ∨ j = v) y2 := fun hj2 hno => ⟨hj2.1, fun v9 hv8 => ⟨fun ⟨u, u1, u2, u3, u4⟩ => (hj2.2 v9 hv8).1 (by
              rcases u2 with u2 | u2
              · exact ⟨u, u1, u2, u3, u4⟩
              · rw [u2] at u4
                exact absurd u4 hno), fun h7 => (hj2.2 v9 hv8).2 (fun ⟨u, u1, u2, u3⟩ => h7 ⟨u, u1, Or.inl u2, u3⟩)⟩⟩
            refine u_X13_reverse_6 ?_; unfold qm_X13_reverse_6
            refine w_rdI (pl4 pn1) rfl (by omega) (lk_cu o2.1 hv9).1 (w_rdI (pl5 pn1) rfl (by omega) (lk_cu o2.1 hv9).2 (w_cs0 (tn_add pn3 hb (by rw [List.length_append, hlm, List.length_take]; omega)) (fun y2 ⟨g1, g2⟩ => ?_)))
            have hb2 : rn_At y2 3000 (rvX (tauC c) A m) ((tLL t (A.getD m [])).take (i + 1)) := by
              rw [take_s hat]
              exact g1
            have hj2 := Jfr (fun g hg => by omega) g2 hj
            have o3 := oJ hj2
            refine w_if (fun h7 => c7 y2 (same hj2 (fun h6 => ?_)) hb2) (fun h7 => w_if (fun h6 => c7 y2 (same hj2 (fun h5 => h5.1 h6)) hb2) (fun h6 => w_rdI (pl7 pn1) rfl (by omega) (lk_m hd o3.1 hv9) (w_rdI (pl8 pn1) rfl (by omega) (lk_c o3.1 hml) (w_if (fun h5 => c7 y2 (same hj2 (fun h4 => ?_)) hb2) (fun h5 => ?_)))))
            · -- t is false
              have : t = false := by
                cases t
                · rfl
                · exact absurd h7 (by decide)
              rw [this] at ht
              unfold tauC at ht
              rw [← hcm, decide_eq_true h6.2.1, Bool.or_true] at ht
              cases ht
            · exact h4.2.2 ((nI_inj9 (by have := (rn_c_in A _ hml).1; omega) (by omega) h5).trans hcm.symm)
            · obtain ⟨x1, x2, x3⟩ := o3.cx hv9
              have tt : t = true := by
                cases t
                · exact absurd rfl h7
                · rfl
              have hcn : c = nI (rn_c A v) := by
                rw [tt] at ht
                unfold tauC at ht
                rw [decide_eq_false h6, Bool.false_or] at ht
                rw [hcm]
                exact of_decide_eq_true ht.symm
              have hdif : rn_c A (mtf A v) ≠ rn_c A v := fun h4 => h5 (by rw [h4, hcm])
              have e6 : y2.2.1 1006 (crs A v) = z2.2.1 1006 (crs A v) := by rw [(hj2.1 1006 (by omega)).2.1]
              refine w_rdI (pl4 pn1) rfl (by omega) (lk_cu o3.1 hv9).1 (w_rdI (pl4 pn1) rfl (by omega) (lk_cu o3.1 hv9).1 (w_rdI (pl6 pn1) rfl (by omega) e6 (w_wrI (pl6 pn3) rfl (by omega) (c7 _ ⟨fr_I2 hj2.1 (by omega), fun v9 hv8 => ?_⟩ (fr_At (P := fun g => g = 3006) (fr_I rfl) (fun g hg => by omega) hb2)))))
              by_cases hce : crs A v9 = crs A v
              · rw [hce]
                refine ⟨fun _ => po_usI_at, fun h4 => absurd ⟨v, hv9, Or.inr rfl, rfl, h6, hcn, hdif⟩ h4⟩
              · show (fl _ _ → (usI y2 3006 (crs A v) _).2.1 3006 (crs A v9) = _) ∧ (_ → (usI y2 3006 (crs A v) _).2.1 3006 (crs A v9) = _)
                rw [po_usI_ne hce]
                refine ⟨fun ⟨u, u1, u2, u3, u4⟩ => (hj2.2 v9 hv8).1 ?_, fun h4 => (hj2.2 v9 hv8).2 (fun ⟨u, u1, u2, u3⟩ => h4 ⟨u, u1, Or.inl u2, u3⟩)⟩
                rcases u2 with u2 | u2
                · exact ⟨u, u1, u2, u3, u4⟩
                · rw [u2] at u3
                  exact absurd u3.symm hce
          refine u_X13_reverse_5 ?_; unfold qm_X13_reverse_5
          rw [nI_1]
          refine w_rdI (pl3 pn1) rfl (by omega) (lk_b o2.1 (by omega)) (w_rdI (pl3 pn1) rfl (by omega) (lk_b o2.1 (by omega)) ?_)
          rw [pk_sub hmono]
          refine w_leF (by omega) (by omega) ?_
          cases t with
          | false =>
            refine w_ifT rfl (w_rdI (pl3 pn1) rfl (by omega) (lk_b o2.1 (by omega)) ?_)
            rw [nI_add]
            exact hv6 _ (by omega) (by omega) (by omega) rfl
          | true =>
            refine w_ifF (by decide) (w_rdI (pl3 pn1) rfl (by omega) (lk_b o2.1 (by omega)) ?_)
            rw [show nI (rn_b A (m + 1)) - 1 - nI i = nI (rn_b A (m + 1) - 1 - i) from by
              rw [show nI (rn_b A (m + 1)) - 1 = nI (rn_b A (m + 1) - 1) from pk_sub (b := 1) (by omega)]
              exact pk_sub (by omega)]
            exact hv6 _ (by omega) (by omega) (by omega) rfl
      have c4 : ∀ t : Bool, t = tauC c m → Tt (fun K i9 => q_X13_reverse K i9 4 (nI e) c (nI m) 0 0 0 (bZ t) y) Q := by
        intro t ht
        refine u_X13_reverse_4 ?_; unfold qm_X13_reverse_4
        refine inn t ht (rlen A m) 0 y (by omega) (Jeq (fun j => ?_) hj) (by rw [List.take_zero]; exact hb)
        cases t
        · simp only [Bool.false_eq_true, if_false]
          omega
        · simp only [if_true]
          omega
      have c3 : tauC c m = true → Tt (fun K i9 => q_X13_reverse K i9 3 (nI e) c (nI m) 0 0 0 0 y) Q := by
        intro ht
        refine u_X13_reverse_3 ?_; unfold qm_X13_reverse_3
        exact c4 true ht.symm
      refine u_X13_reverse_2 ?_; unfold qm_X13_reverse_2
      refine w_rdF (lk_C (oJ hj).1) (w_leF (by omega) (by omega) (w_if (fun h7 => c3 ?_) (fun h7 => w_if (fun h6 => c3 ?_) (fun h6 => c4 false ?_))))
      · unfold tauC
        rw [decide_eq_true h7]
        rfl
      · unfold tauC
        rw [decide_eq_true h6, Bool.or_true]
      · unfold tauC
        rw [decide_eq_false h7, decide_eq_false h6]
        rfl
  refine out A.length 0 z4 (by omega) ⟨fr_tr (fr_mono (fun g hg => by omega) f3) (fr_mono (fun g hg => by omega) f4), fun v hv9 => ⟨fun ⟨u, _, u2, _⟩ => absurd u2 (by rw [rn_b0]; omega), fun _ => ?_⟩⟩ (fr_At f4 (fun g hg => by omega) b3)
  have := s4 (crs A v) (by have := (o1.cx hv9).1; omega)
  rw [show z4.2.1 3006 (crs A v) = z3.2.1 1006 (crs A v) from this, (f3 1006 (by omega)).2.1]
end XV
end
section
/-! 99zzzzzzzzzg.xcr -/
/-! exact calls of the class: reverse -/
section IRV
variable {A : rn_L} {sg : Nat → Bool} {f : Nat → Nat} {T : ow_NT} {t : Nat → Bool} {τ : Nat → Bool}
theorem rvX_in {L' : List (Nat × Nat)} (h : L' ∈ rvX τ A A.length) : ∃ k, ∃ hk : k < A.length, L' = tLL (τ k) A[k] := by
  obtain ⟨k, k1, k2⟩ := List.mem_map.mp h
  have hk := List.mem_range.mp k1
  refine ⟨k, hk, ?_⟩
  rw [← k2, List.getD_eq_getElem?_getD, List.getElem?_eq_getElem hk]
  rfl
theorem cirs_rvX : cirs (rvX τ A A.length) = cirs A := by
  have e : A = (List.range A.length).map (fun k => A.getD k []) := by
    apply List.ext_getElem?
    intro i
    rw [List.getElem?_map]
    by_cases h : i < A.length
    · rw [List.getElem?_range h, List.getElem?_eq_getElem h]
      show _ = some (A.getD i [])
      rw [List.getD_eq_getElem?_getD, List.getElem?_eq_getElem h]
      rfl
    · rw [List.getElem?_eq_none (by omega), List.getElem?_eq_none (by rw [List.length_range]; omega)]
      rfl
  have h1 : cirs (rvX τ A A.length) = (List.range A.length).countP (fun k => (A.getD k []).isEmpty) := by
    unfold cirs rvX
    rw [List.countP_map]
    congr 1
    funext k
    show (tLL (τ k) (A.getD k [])).isEmpty = _
    unfold tLL
    split
    · cases A.getD k [] with
      | nil => rfl
      | cons a X => simp
    · rfl
  rw [h1]
  conv => rhs; rw [e]
  unfold cirs
  rw [List.countP_map]
  rfl
theorem iso_turn (h : isoV A sg f T) (hT : pm1 T) (ht : ∀ p, p ∈ A.flatten → t (gl f p) = τ (cidx A p)) : (∀ k, k < 2 * T.1 → t (T.2.2.1.1 k) = t k) ∧ isoV (rvX τ A A.length) (sgT τ A sg) f (ntT T t) := by
  have hv := isoV_vn h
  have hF := h.1.1
  have sameC : ∀ k (hk : k < A.length) p, p ∈ A[k] → cidx A p = k := fun k hk p hp => cidx_of hF.1 hk hp
  have hloop : ∀ k, k < 2 * T.1 → t (T.2.2.1.1 k) = t k := fun k hk => by
    obtain ⟨p, p1, rfl⟩ := gl_sur h hk
    obtain ⟨L, l1, l2⟩ := List.mem_flatten.mp p1
    have nL := L_nd hF.1 l1
    have s1 : sc L p ∈ A.flatten := List.mem_flatten.mpr ⟨L, l1, sc_in l2 nL⟩
    rw [(h.2 L l1 p l2).1, ht _ s1, ht _ p1]
    obtain ⟨j, hj, rfl⟩ := List.mem_iff_getElem.mp l1
    rw [sameC j hj _ (sc_in l2 nL), sameC j hj _ l2]
  have pm := rvX_perm (τ := τ) (A := A)
  refine ⟨hloop, isoV_of (isoS_iff.mp ⟨wkF_perm pm hF, ?_, h.1.2.2.1, fun p hp => h.1.2.2.2.1 p (pm.mem_iff.mp hp), fun p q hp hq e => h.1.2.2.2.2.1 p q (pm.mem_iff.mp hp) (pm.mem_iff.mp hq) e, ?_, ?_, ?_⟩) (vn_T hv hloop)⟩
  · rw [pm.length_eq]
    exact h.1.2.1
  · intro L' hL' p hp
    obtain ⟨k, hk, rfl⟩ := rvX_in hL'
    have hpL : p ∈ A[k] := tLL_mem.mp hp
    have hLA : A[k] ∈ A := List.getElem_mem hk
    have nL := L_nd hF.1 hLA
    have pF : p ∈ A.flatten := List.mem_flatten.mpr ⟨_, hLA, hpL⟩
    have hgl := gl_lt h pF
    have htp : t (gl f p) = τ k := by rw [ht p pF, sameC k hk p hpL]
    show (ntT T t).2.2.1.1 (gl f p) = gl f (sc (tLL (τ k) A[k]) p)
    rw [(ntT_1 hgl).1, htp]
    unfold tLL
    cases τ k with
    | false =>
      rw [if_neg (by decide)]
      exact (h.2 _ hLA p hpL).1
    | true =>
      rw [if_pos rfl, if_pos rfl]
      obtain ⟨q, q1, q2⟩ := sc_pre nL hpL
      have e1 := (h.2 _ hLA q q1).2
      rw [q2] at e1
      have e2 := sc_rev nL q1
      rw [q2] at e2
      rw [e1, e2]
  · intro p hp
    have pF := pm.mem_iff.mp hp
    have hx := h.1.2.2.2.1 p pF
    have hw := hF.2 p pF
    have b0 : (p.1, 0) ∈ A.flatten ∧ (p.1, 1) ∈ A.flatten := by
      rcases (show p.2 = 0 ∨ p.2 = 1 by omega) with e | e
      · have e1 : p = (p.1, 0) := Prod.ext rfl e
        refine ⟨by rw [← e1]; exact pF, ?_⟩
        have := hw.2.2
        rw [e] at this
        exact this
      · have e1 : p = (p.1, 1) := Prod.ext rfl e
        refine ⟨?_, by rw [← e1]; exact pF⟩
        have := hw.2.2
        rw [e] at this
        exact this
    rw [ntT_G hx]
    have t0 : t (2 * f p.1) = τ (cidx A (p.1, 0)) := ht _ b0.1
    have t1 : t (2 * f p.1 + 1) = τ (cidx A (p.1, 1)) := ht _ b0.2
    rw [t0, t1]
    have hs := h.1.2.2.2.2.2.2.1 p pF
    unfold sgT
    by_cases e : (τ (cidx A (p.1, 0)) != τ (cidx A (p.1, 1))) = true
    · rw [if_pos e, if_pos e]
      rcases hT _ hx with h9 | h9
      · rw [h9] at hs ⊢
        cases hq : sg p.1 with
        | true => exact absurd (hs.mpr hq) (by decide)
        | false => exact ⟨fun _ => rfl, fun _ => by decide⟩
      · rw [h9] at hs ⊢
        rw [hs.mp (by decide)]
        exact ⟨fun h8 => absurd h8 (by decide), fun h8 => absurd h8 (by decide)⟩
    · rw [if_neg e, if_neg e]
      exact hs
  · rw [cirs_rvX]
    exact h.1.2.2.2.2.2.2.2
end IRV
section XCR
variable {vl : Nat → Nat} {y : ow_MS} {St : plT} {x x' : Int32}
theorem xc_reverse (hN : gN y) (hC : relC y St) (hS : okS St) : Te (fun K => ce_X11_reverse vl K 0 x x' y) (fun r => r.1 = 1 ∧ gN r.2.2 ∧ fr uP y r.2.2 ∧ relC r.2.2 St ∧ (∀ d, d < 40 → x = nI d → St d = none) ∨ ∃ d A sg, d < 40 ∧ x = nI d ∧ St d = some (A, sg) ∧ (r.1 = 1 ∧ gN r.2.2 ∧ fr uP y r.2.2 ∧ relC r.2.2 St ∧ ¬ cokC A x' ∨ cokC A x' ∧ (r.1 = 3 ∧ gN r.2.2 ∧ fr uP y r.2.2 ∧ relC r.2.2 St ∧ allF St ∨ r.1 = 0 ∧ ∃ e, lstF St e ∧ cKp y e (rvX (tauC x') A A.length) (sgT (tauC x') A sg) r.2))) := by
  let Q0 : ow_MS → Int32 → Nat × Int32 × ow_MS → Prop := fun y x r => r.1 = 1 ∧ gN r.2.2 ∧ fr uP y r.2.2 ∧ relC r.2.2 St ∧ (∀ d, d < 40 → x = nI d → St d = none) ∨ ∃ d A sg, d < 40 ∧ x = nI d ∧ St d = some (A, sg) ∧ (r.1 = 1 ∧ gN r.2.2 ∧ fr uP y r.2.2 ∧ relC r.2.2 St ∧ ¬ cokC A x' ∨ cokC A x' ∧ (r.1 = 3 ∧ gN r.2.2 ∧ fr uP y r.2.2 ∧ relC r.2.2 St ∧ allF St ∨ r.1 = 0 ∧ ∃ e, lstF St e ∧ cKp y e (rvX (tauC x') A A.length) (sgT (tauC x') A sg) r.2))
  refine e_X11_reverse ?_
  refine u_X11_reverse_0 ?_; unfold cm_X11_reverse_0
  refine w_tc0 (xc_need hN.1 hC hS) ?_ ?_
  · rintro y1 ⟨h1, rfl⟩
    rcases h1 with h1 | ⟨-, d, A, sg, c, hd, rfl, hSt, hs, hA, hne, hpl⟩
    · exact absurd (show (0 : Nat) = 1 from h1.1) (by decide)
    · refine w_cs0 (xc_ld hN hd hs hA hpl) ?_
      rintro y3 ⟨hN3, f3, T, hT, hT1, hV, hpm, hTp⟩
      have f3u : fr uP y1 y3 := fr_mono (fun g hg => by unfold cL at hg; unfold uP; omega) f3
      have hC3 : relC y3 St := relC_fr f3 (fun q hq h9 => by unfold cW at hq; unfold cL at h9; omega) hC
      have hv := hT.2.2.1
      have h6 := hA.2.2.2.2
      have c1 : cokC A x' → Tt (fun K t => c_X11_reverse vl K t 1 (nI d) x' 0 y3) (Q0 y1 (nI d)) := by
        intro hok
        refine u_X11_reverse_1 ?_; unfold cm_X11_reverse_1
        refine w_tc1 (xc_free hN3.1 hC3 hS) ?_ ?_
        · rintro v y5 ⟨h5, rfl⟩
          rcases h5 with h5 | ⟨-, e, rfl, hl⟩
          · exact absurd (show (0 : Nat) = 3 from h5.1) (by decide)
          · refine w_cs0 (tc_turn (F := y5.2.1 4005) nH4 hT.1 hv.2.1 (fun _ => rfl)) ?_
            rintro y6 ⟨g1, g2⟩
            have g1 : cAt y6 4000 (ntT T (fun v => decide (x' = -1) || decide (y5.2.1 4005 v = x'))) := g1
            have htau : ∀ p, p ∈ A.flatten → (fun v => decide (x' = -1) || decide (y5.2.1 4005 v = x')) (gl (fun x => x) p) = tauC x' (cidx A p) := fun p hp => by
              obtain ⟨u, u1, u2⟩ := mem_vAt hp
              have e1 : y5.2.1 4005 (lb (vAt A u)) = nI (rn_c A u) := hT.2.2.2.2.1 u u1
              rw [u2] at e1
              have e1 : y5.2.1 4005 (gl (fun x => x) p) = nI (rn_c A u) := e1
              have e2 := rc_idx hV.1.1.1 u1
              rw [u2] at e2
              show (decide (x' = -1) || decide (y5.2.1 4005 (gl (fun x => x) p) = x')) = _
              unfold tauC
              rw [e1, e2]
              congr 1
              exact decide_eq_decide.mpr eq_comm
            obtain ⟨k1, k2⟩ := iso_turn (t := fun v => decide (x' = -1) || decide (y5.2.1 4005 v = x')) (τ := tauC x') hV hpm htau
            have hv6 := nv_turn (t := fun v => decide (x' = -1) || decide (y5.2.1 4005 v = x')) (G := (np_turn (fun v => decide (x' = -1) || decide (y5.2.1 4005 v = x')) T.2.2.1 T.2.2.2 (2 * T.1)).2) hv k1
            refine w_cs1 (tc_keep (gN_net nH4 g2 (fun g hg => by unfold cP at hg; omega) ⟨_, g1, hv6.2.2.1⟩ hN3) hl.1 g1 hv6) ?_
            rintro r y7 ⟨q0, q1, q2, ⟨Cs, os, q3, q4⟩, q5, -⟩
            exact w_some (Or.inr ⟨d, A, sg, hd, rfl, hSt, Or.inr ⟨hok, Or.inr ⟨rfl, e, hl, q0, q1, fr_tr f3u (fr_tr (fr_mono (fun g hg => by unfold cP at hg; unfold uP; omega) g2) q2), ⟨_, _, Cs, os, hv6, pm1_T hpm, k2, pl_turn hv.1 hv.2.1 hpm k1 hTp, q3, q4⟩, fun d' C' h1 h2 h3 => q5 d' C' h1 h2 (slC_fr g2 (fun q hq h9 => by unfold cW at hq; unfold cP at h9; omega) (slC_fr f3 (fun q hq h9 => by unfold cW at hq; unfold cL at h9; omega) h3))⟩⟩⟩)
        · rintro a v y5 ha ⟨h5, rfl⟩
          rcases h5 with h5 | h5
          · exact w_some (Or.inr ⟨d, A, sg, hd, rfl, hSt, Or.inr ⟨hok, Or.inl ⟨h5.1, hN3, f3u, hC3, h5.2⟩⟩⟩)
          · exact absurd h5.1 ha
      refine w_if (fun h9 => c1 (Or.inl h9)) (fun h9 => w_tc0 (tc_needComponent hT.2.2.2.2.2 (by omega)) ?_ ?_)
      · rintro y4 ⟨h4, e4⟩
        have e4 : y4 = y3 := e4
        rw [e4]
        rcases h4 with ⟨-, i, hi, e5⟩ | h4
        · exact c1 (Or.inr ⟨i, hi, e5⟩)
        · exact absurd (show (0 : Nat) = 1 from h4.1) (by decide)
      · rintro a y4 ha ⟨h4, e4⟩
        have e4 : y4 = y3 := e4
        rw [e4]
        rcases h4 with h4 | h4
        · exact absurd h4.1 ha
        · refine w_some (Or.inr ⟨d, A, sg, hd, rfl, hSt, Or.inl ⟨h4.1, hN3, f3u, hC3, fun hk => ?_⟩⟩)
          rcases hk with hk | ⟨k, k1, k2⟩
          · exact h9 hk
          · exact h4.2 k k1 k2
  · rintro a y1 ha ⟨h1, rfl⟩
    rcases h1 with h1 | h1
    · exact w_some (Or.inl ⟨h1.1, hN, fr_rf, hC, h1.2⟩)
    · exact absurd h1.1 ha
end XCR
end
section
/-! 99zzzzzzzzzh.xsm -/
/-! exact calls of the reference: smoothIn -/
def seg (a b : Nat) : List Nat := (List.range (b - a)).map (fun i => a + i)
def cps (A : rn_L) (a b : Nat) : List (List Nat) := (List.range (b - a)).map (fun k => seg (rn_b A (a + k)) (rn_b A (a + k + 1)))
theorem seg_s {a i : Nat} (h : a ≤ i) : seg a (i + 1) = seg a i ++ [i] := by
  unfold seg
  rw [show i + 1 - a = (i - a) + 1 by omega, List.range_succ, List.map_append]
  show _ ++ [a + (i - a)] = _
  rw [show a + (i - a) = i by omega]
theorem seg_0 (a : Nat) : seg a a = [] := by
  unfold seg
  rw [Nat.sub_self]
  rfl
theorem seg_len (a b : Nat) : (seg a b).length = b - a := by
  unfold seg
  rw [List.length_map, List.length_range]
theorem cps_0 (A : rn_L) (a : Nat) : cps A a a = [] := by
  unfold cps
  rw [Nat.sub_self]
  rfl
theorem cps_s {A : rn_L} {a m : Nat} (h : a ≤ m) : cps A a (m + 1) = cps A a m ++ [seg (rn_b A m) (rn_b A (m + 1))] := by
  unfold cps
  rw [show m + 1 - a = (m - a) + 1 by omega, List.range_succ, List.map_append]
  show _ ++ [seg (rn_b A (a + (m - a))) (rn_b A (a + (m - a) + 1))] = _
  rw [show a + (m - a) = m by omega]
theorem cps_n (A : rn_L) (a b : Nat) : (cps A a b).length = b - a := by
  unfold cps
  rw [List.length_map, List.length_range]
theorem cps_len {A : rn_L} {a : Nat} : ∀ {m : Nat}, a ≤ m → (cps A a m).flatten.length = rn_b A m - rn_b A a := by
  intro m h
  obtain ⟨d, rfl⟩ : ∃ d, m = a + d := ⟨m - a, by omega⟩
  induction d with
  | zero =>
    rw [Nat.add_zero, cps_0, Nat.sub_self]
    rfl
  | succ d ih =>
    have m1 := rn_b_mono2 (A := A) (show a ≤ a + d by omega)
    have m2 := rn_b_mono A (a + d)
    rw [show a + (d + 1) = (a + d) + 1 by omega, cps_s (by omega), List.flatten_append, List.length_append, ih (by omega), List.flatten_cons, List.flatten_nil, List.append_nil, seg_len]
    omega
/-- a net built out of the visits of A by their numbers: closed components C, the open one B -/
def bmX (y : ow_MS) (n : Nat) (A : rn_L) (C : List (List Nat)) (B : List Nat) : Prop := rn_At y n (C.map (List.map (vAt A))) (B.map (vAt A))
theorem map_fl2 {A : rn_L} : ∀ C : List (List Nat), ((C.map (List.map (vAt A))).flatten).length = C.flatten.length
  | [] => rfl
  | L :: C => by
    rw [List.map_cons, List.flatten_cons, List.length_append, map_fl2 C, List.flatten_cons, List.length_append, List.length_map]
section XS
variable {y : ow_MS} {n : Nat} {A : rn_L} {C : List (List Nat)} {B : List Nat}
theorem bmX_add {i : Nat} (hn : mw_net n) (hb : bmX y n A C B) (hl : C.flatten.length + B.length < 40) : Te (fun K => qe_X12_add K n (nI (crs A i)) (nI (uns A i)) y) (fun y2 => bmX y2 n A C (B ++ [i]) ∧ fr (fun g => g = n + 1 ∨ g = n + 4 ∨ g = n + 5) y y2) := by
  refine w_monoE (tn_add hn hb (by rw [List.length_append, map_fl2, List.length_map]; exact hl)) (fun y2 h => ⟨?_, h.2⟩)
  unfold bmX
  rw [List.map_append]
  exact h.1
theorem bmX_end (hn : mw_net n) (hb : bmX y n A C B) (hl : C.length < 39) : Te (fun K => qe_X12_end K n y) (fun y2 => bmX y2 n A (C ++ [B]) [] ∧ fr (fun g => g = n + 2 ∨ g = n + 3) y y2) := by
  refine w_monoE (tn_end hn hb (by rw [List.length_map]; exact hl)) (fun y2 h => ⟨?_, h.2⟩)
  unfold bmX
  rw [List.map_append]
  exact h.1
theorem bmX_fr {P : Nat → Prop} {y2 : ow_MS} (hf : fr P y y2) (hP : ∀ g, P g → g < n + 1 ∨ n + 5 < g) (hb : bmX y n A C B) : bmX y2 n A C B := fr_At hf hP hb
end XS
/-- what smoothing leaves: both visits in one component, or in two -/
def smC (A : rn_L) (c v w J : Nat) : List (List Nat) := if w < rn_b A (c + 1) then cps A 0 c ++ [seg (rn_b A c) v ++ seg (w + 1) (rn_b A (c + 1))] ++ cps A (c + 1) A.length ++ [seg (v + 1) w] else cps A 0 c ++ [((seg (rn_b A c) v ++ seg (w + 1) (rn_b A (J + 1))) ++ seg (rn_b A J) w) ++ seg (v + 1) (rn_b A (c + 1))] ++ cps A (c + 1) J ++ cps A (J + 1) A.length
theorem xr_smoothIn {o n c v w : Nat} {z : ow_MS} {A : rn_L} (ho : mw_net o) (hn : mw_net n) (hon : n ≠ o) (hl : A.flatten.length ≤ 24) (hC : A.length ≤ 37) (hA : rn_At z o A []) (hc : c < A.length) (hv1 : rn_b A c ≤ v) (hv2 : v < rn_b A (c + 1)) (hvw : v < w) (hw : w < A.flatten.length) : Te (fun K => qe_X13_smoothIn K o (nI c) (nI v) (nI w) n z) (fun z1 => bmX z1 n A (smC A c v w (rn_c A w)) [] ∧ (∀ x, x < 40 → z1.2.1 (n + 6) x = z.2.1 (o + 6) x) ∧ fr (fun g => n + 1 ≤ g ∧ g ≤ n + 6) z z1) := by
  have hmn := net_mod hn
  have hmo := net_mod ho
  let I : ow_MS → Prop := fun y => fr (fun g => n + 1 ≤ g ∧ g ≤ n + 6) z y ∧ ∀ x, x < 40 → y.2.1 (n + 6) x = z.2.1 (o + 6) x
  let Q : ow_MS → Prop := fun z1 => bmX z1 n A (smC A c v w (rn_c A w)) [] ∧ (∀ x, x < 40 → z1.2.1 (n + 6) x = z.2.1 (o + 6) x) ∧ fr (fun g => n + 1 ≤ g ∧ g ≤ n + 6) z z1
  have atI : ∀ {y : ow_MS}, I y → rn_At y o A [] := fun hI => fr_At hI.1 (fun g hg => by omega) hA
  have cuI : ∀ {y : ow_MS} {i : Nat}, I y → i < A.flatten.length → y.2.1 (o + 4) i = nI (crs A i) ∧ y.2.1 (o + 5) i = nI (uns A i) := fun hI hi => at_cu (atI hI) hi
  have bI : ∀ {y : ow_MS} {k : Nat}, I y → k ≤ A.length → y.2.1 (o + 3) k = nI (rn_b A k) := fun hI hk => (atI hI).2.2.1 _ hk
  have addI : ∀ {y y2 : ow_MS}, I y → fr (fun g => g = n + 1 ∨ g = n + 4 ∨ g = n + 5) y y2 → I y2 := fun hI hf => ⟨fr_tr hI.1 (fr_mono (fun g hg => by omega) hf), fun x hx => by rw [(hf (n + 6) (by omega)).2.1]; exact hI.2 x hx⟩
  have endI : ∀ {y y2 : ow_MS}, I y → fr (fun g => g = n + 2 ∨ g = n + 3) y y2 → I y2 := fun hI hf => ⟨fr_tr hI.1 (fr_mono (fun g hg => by omega) hf), fun x hx => by rw [(hf (n + 6) (by omega)).2.1]; exact hI.2 x hx⟩
  have hbl := rn_b_le A (c + 1)
  have hbl2 := fun k => rn_b_le A k
  have hbl3 := hbl2 c
  obtain ⟨hJ1, hJ2, hJ3⟩ := rn_c_in A w hw
  obtain ⟨J, hJ⟩ : ∃ J, J = rn_c A w := ⟨_, rfl⟩
  rw [← hJ] at hJ1 hJ2 hJ3
  have hbJ := hbl2 (J + 1)
  have mono := fun {a b : Nat} (h9 : a ≤ b) => rn_b_mono2 (A := A) h9
  -- a component as it is
  have l11 : ∀ (x5 : Int32) (m : Nat) (C : List (List Nat)), m < A.length → C.length < 39 → C.flatten.length + (rn_b A (m + 1) - rn_b A m) ≤ 39 → (∀ y2, I y2 → bmX y2 n A (C ++ [seg (rn_b A m) (rn_b A (m + 1))]) [] → Tt (fun K i9 => q_X13_smoothIn K i9 12 (nI c) (nI v) (nI w) x5 (nI m) 0 0 o n 0 y2) Q) → ∀ (k i : Nat) (y : ow_MS), i + k = rn_b A (m + 1) → rn_b A m ≤ i → I y → bmX y n A C (seg (rn_b A m) i) → Tt (fun K i9 => q_X13_smoothIn K i9 11 (nI c) (nI v) (nI w) x5 (nI m) (nI i) 0 o n 0 y) Q := by
    intro x5 m C hm hq hsz hout k
    have hbm := hbl2 (m + 1)
    induction k with
    | zero =>
      intro i y hi hlo hI hb
      have hie : i = rn_b A (m + 1) := by omega
      rw [hie] at hb ⊢
      refine u_X13_smoothIn_11 ?_; unfold qm_X13_smoothIn_11
      rw [nI_1]
      exact w_rdI (pl3 ho) rfl (by omega) (bI hI (by omega)) (w_leT (by omega) (Nat.le_refl _) (w_cs0 (bmX_end hn hb hq) (fun y2 ⟨g1, g2⟩ => hout y2 (endI hI g2) g1)))
    | succ k ih =>
      intro i y hi hlo hI hb
      have hil : i < A.flatten.length := by omega
      refine u_X13_smoothIn_11 ?_; unfold qm_X13_smoothIn_11
      rw [nI_1]
      refine w_rdI (pl3 ho) rfl (by omega) (bI hI (by omega)) (w_leF (by omega) (by omega) (w_rdI (pl4 ho) rfl (by omega) (cuI hI hil).1 (w_rdI (pl5 ho) rfl (by omega) (cuI hI hil).2 (w_cs0 (bmX_add hn hb (by rw [seg_len]; omega)) (fun y2 ⟨g1, g2⟩ => ?_)))))
      rw [nI_1]
      refine ih (i + 1) y2 (by omega) (by omega) (addI hI g2) ?_
      rw [seg_s hlo]
      exact g1
  have c10 : ∀ (x5 : Int32) (m : Nat) (C : List (List Nat)) (y : ow_MS), m < A.length → C.length < 39 → C.flatten.length + (rn_b A (m + 1) - rn_b A m) ≤ 39 → (∀ y2, I y2 → bmX y2 n A (C ++ [seg (rn_b A m) (rn_b A (m + 1))]) [] → Tt (fun K i9 => q_X13_smoothIn K i9 12 (nI c) (nI v) (nI w) x5 (nI m) 0 0 o n 0 y2) Q) → I y → bmX y n A C [] → Tt (fun K i9 => q_X13_smoothIn K i9 10 (nI c) (nI v) (nI w) x5 (nI m) 0 0 o n 0 y) Q := by
    intro x5 m C y hm hq hsz hout hI hb
    have hmm := rn_b_mono A m
    refine u_X13_smoothIn_10 ?_; unfold qm_X13_smoothIn_10
    refine w_rdI (pl3 ho) rfl (by omega) (bI hI (by omega)) (l11 x5 m C hm hq hsz hout (rn_b A (m + 1) - rn_b A m) (rn_b A m) y (by omega) (Nat.le_refl _) hI ?_)
    rw [seg_0]
    exact hb
  have s0c := cps_len (A := A) (Nat.zero_le c)
  rw [rn_b0, Nat.sub_zero] at s0c
  by_cases hone : w < rn_b A (c + 1)
  · -- both visits in one component
    have eS : smC A c v w (rn_c A w) = cps A 0 c ++ [seg (rn_b A c) v ++ seg (w + 1) (rn_b A (c + 1))] ++ cps A (c + 1) A.length ++ [seg (v + 1) w] := if_pos hone
    have l13 : ∀ (k i : Nat) (y : ow_MS), i + k = w → v + 1 ≤ i → I y → bmX y n A (cps A 0 c ++ [seg (rn_b A c) v ++ seg (w + 1) (rn_b A (c + 1))] ++ cps A (c + 1) A.length) (seg (v + 1) i) → Tt (fun K i9 => q_X13_smoothIn K i9 13 (nI c) (nI v) (nI w) 1 (nI i) 0 0 o n 0 y) Q := by
      intro k
      have sa := cps_len (A := A) (show c + 1 ≤ A.length by omega)
      have hbn := rn_b_len A
      have hsz : (cps A 0 c ++ [seg (rn_b A c) v ++ seg (w + 1) (rn_b A (c + 1))] ++ cps A (c + 1) A.length).flatten.length ≤ 24 := by
        rw [List.flatten_append, List.flatten_append, List.length_append, List.length_append, s0c, sa, List.flatten_cons, List.flatten_nil, List.append_nil, List.length_append, seg_len, seg_len]
        omega
      have hcn : (cps A 0 c ++ [seg (rn_b A c) v ++ seg (w + 1) (rn_b A (c + 1))] ++ cps A (c + 1) A.length).length < 39 := by
        rw [List.length_append, List.length_append, cps_n, cps_n]
        show c - 0 + 1 + (A.length - (c + 1)) < 39
        omega
      have hsz2 : ∀ i, i < w → v + 1 ≤ i → (cps A 0 c ++ [seg (rn_b A c) v ++ seg (w + 1) (rn_b A (c + 1))] ++ cps A (c + 1) A.length).flatten.length + (seg (v + 1) i).length < 40 := fun i h1 h2 => by
        rw [List.flatten_append, List.flatten_append, List.length_append, List.length_append, s0c, sa, List.flatten_cons, List.flatten_nil, List.append_nil, List.length_append, seg_len, seg_len, seg_len]
        omega
      induction k with
      | zero =>
        intro i y hi hlo hI hb
        have hie : i = w := by omega
        rw [hie] at hb ⊢
        refine u_X13_smoothIn_13 ?_; unfold qm_X13_smoothIn_13
        refine w_leT (by omega) (Nat.le_refl _) (w_cs0 (bmX_end hn hb hcn) (fun y3 ⟨g1, g2⟩ => w_some ⟨?_, (endI hI g2).2, (endI hI g2).1⟩))
        rw [eS]
        exact g1
      | succ k ih =>
        intro i y hi hlo hI hb
        have hil : i < A.flatten.length := by omega
        refine u_X13_smoothIn_13 ?_; unfold qm_X13_smoothIn_13
        refine (w_leF (by omega) (by omega) (w_rdI (pl4 ho) rfl (by omega) (cuI hI hil).1 (w_rdI (pl5 ho) rfl (by omega) (cuI hI hil).2 (w_cs0 (bmX_add hn hb (hsz2 i (by omega) hlo)) (fun y2 ⟨g1, g2⟩ => ?_)))))
        rw [nI_1]
        refine ih (i + 1) y2 (by omega) (by omega) (addI hI g2) ?_
        rw [seg_s hlo]
        exact g1
    have aft : ∀ (k m : Nat) (y : ow_MS), m + k = A.length → c < m → I y → bmX y n A (cps A 0 c ++ [seg (rn_b A c) v ++ seg (w + 1) (rn_b A (c + 1))] ++ cps A (c + 1) m) [] → Tt (fun K i9 => q_X13_smoothIn K i9 2 (nI c) (nI v) (nI w) 1 (nI m) 0 0 o n 0 y) Q := by
      intro k
      induction k with
      | zero =>
        intro m y hm hcm hI hb
        have hme : m = A.length := by omega
        rw [hme] at hb
        refine u_X13_smoothIn_2 ?_; unfold qm_X13_smoothIn_2
        rw [nI_1 v]
        refine w_rdF (atI hI).2.1 (w_leT (by omega) (by omega) (w_ifF (by decide) (l13 (w - (v + 1)) (v + 1) y (by omega) (Nat.le_refl _) hI ?_)))
        rw [seg_0]
        exact hb
      | succ k ih =>
        intro m y hm hcm hI hb
        have m1 := mono (a := c + 1) (b := m) (by omega)
        have m2 := rn_b_mono A m
        have m3 := hbl2 (m + 1)
        have sa := cps_len (A := A) (show c + 1 ≤ m by omega)
        refine u_X13_smoothIn_2 ?_; unfold qm_X13_smoothIn_2
        rw [nI_1 v]
        refine w_rdF (atI hI).2.1 (w_leF (by omega) (by omega) (w_ifF (fun e => by have := (nI_eq (by omega) (by omega)).mp e; omega) (w_ifF (by decide) (c10 1 m _ y (by omega) ?_ ?_ (fun y2 hI2 hb2 => ?_) hI hb))))
        · rw [List.length_append, List.length_append, cps_n, cps_n]
          show c - 0 + 1 + (m - (c + 1)) < 39
          omega
        · rw [List.flatten_append, List.flatten_append, List.length_append, List.length_append, s0c, sa, List.flatten_cons, List.flatten_nil, List.append_nil, List.length_append, seg_len, seg_len]
          omega
        · refine u_X13_smoothIn_12 ?_; unfold qm_X13_smoothIn_12
          rw [nI_1]
          refine ih (m + 1) y2 (by omega) (by omega) hI2 ?_
          rw [cps_s (by omega), ← List.append_assoc]
          exact hb2
    have l4 : ∀ (k i : Nat) (y : ow_MS), i + k = rn_b A (c + 1) → w + 1 ≤ i → I y → bmX y n A (cps A 0 c) (seg (rn_b A c) v ++ seg (w + 1) i) → (∀ y2, I y2 → bmX y2 n A (cps A 0 c) (seg (rn_b A c) v ++ seg (w + 1) (rn_b A (c + 1))) → Tt (fun K i9 => q_X13_smoothIn K i9 9 (nI c) (nI v) (nI w) 1 (nI c) (nI (rn_b A (c + 1))) 0 o n 0 y2) Q) → Tt (fun K i9 => q_X13_smoothIn K i9 4 (nI c) (nI v) (nI w) 1 (nI c) (nI i) 0 o n 0 y) Q := by
      intro k
      induction k with
      | zero =>
        intro i y hi hlo hI hb hout
        have hie : i = rn_b A (c + 1) := by omega
        rw [hie] at hb ⊢
        refine u_X13_smoothIn_4 ?_; unfold qm_X13_smoothIn_4
        exact w_rdI (pl3 ho) (nI_1 _) (by omega) (bI hI (by omega)) (w_leT (by omega) (Nat.le_refl _) (hout y hI hb))
      | succ k ih =>
        intro i y hi hlo hI hb hout
        have hil : i < A.flatten.length := by omega
        refine u_X13_smoothIn_4 ?_; unfold qm_X13_smoothIn_4
        refine w_rdI (pl3 ho) (nI_1 _) (by omega) (bI hI (by omega)) (w_leF (by omega) (by omega) (w_rdI (pl4 ho) rfl (by omega) (cuI hI hil).1 (w_rdI (pl5 ho) rfl (by omega) (cuI hI hil).2 (w_cs0 (bmX_add hn hb (by rw [s0c, List.length_append, seg_len, seg_len]; omega)) (fun y2 ⟨g1, g2⟩ => ?_)))))
        rw [nI_1]
        refine ih (i + 1) y2 (by omega) (by omega) (addI hI g2) ?_ hout
        rw [seg_s hlo, ← List.append_assoc]
        exact g1
    have l3 : ∀ (k i : Nat) (y : ow_MS), i + k = v → rn_b A c ≤ i → I y → bmX y n A (cps A 0 c) (seg (rn_b A c) i) → (∀ y2, I y2 → bmX y2 n A (cps A 0 c) (seg (rn_b A c) v) → Tt (fun K i9 => q_X13_smoothIn K i9 4 (nI c) (nI v) (nI w) 1 (nI c) (nI (w + 1)) 0 o n 0 y2) Q) → Tt (fun K i9 => q_X13_smoothIn K i9 3 (nI c) (nI v) (nI w) 1 (nI c) (nI i) 0 o n 0 y) Q := by
      intro k
      induction k with
      | zero =>
        intro i y hi hlo hI hb hout
        have hie : i = v := by omega
        rw [hie] at hb ⊢
        refine u_X13_smoothIn_3 ?_; unfold qm_X13_smoothIn_3
        rw [nI_1 w]
        exact w_leT (by omega) (Nat.le_refl _) (w_ifF (by decide) (hout y hI hb))
      | succ k ih =>
        intro i y hi hlo hI hb hout
        have hil : i < A.flatten.length := by omega
        refine u_X13_smoothIn_3 ?_; unfold qm_X13_smoothIn_3
        rw [nI_1 w]
        refine (w_leF (by omega) (by omega) (w_rdI (pl4 ho) rfl (by omega) (cuI hI hil).1 (w_rdI (pl5 ho) rfl (by omega) (cuI hI hil).2 (w_cs0 (bmX_add hn hb (by rw [s0c, seg_len]; omega)) (fun y2 ⟨g1, g2⟩ => ?_)))))
        rw [nI_1]
        refine ih (i + 1) y2 (by omega) (by omega) (addI hI g2) ?_ hout
        rw [seg_s hlo]
        exact g1
    have bef : ∀ (k m : Nat) (y : ow_MS), m + k = c → I y → bmX y n A (cps A 0 m) [] → Tt (fun K i9 => q_X13_smoothIn K i9 2 (nI c) (nI v) (nI w) 1 (nI m) 0 0 o n 0 y) Q := by
      intro k
      induction k with
      | zero =>
        intro m y hm hI hb
        have hme : m = c := by omega
        rw [hme] at hb ⊢
        refine u_X13_smoothIn_2 ?_; unfold qm_X13_smoothIn_2
        refine w_rdF (atI hI).2.1 (w_leF (by omega) (by omega) (w_ifT rfl (w_rdI (pl3 ho) rfl (by omega) (bI hI (by omega)) (l3 (v - rn_b A c) (rn_b A c) y (by omega) (Nat.le_refl _) hI (by rw [seg_0]; exact hb) (fun y2 hI2 hb2 => l4 (rn_b A (c + 1) - (w + 1)) (w + 1) y2 (by omega) (Nat.le_refl _) hI2 (by rw [seg_0, List.append_nil]; exact hb2) (fun y3 hI3 hb3 => ?_))))))
        refine u_X13_smoothIn_9 ?_; unfold qm_X13_smoothIn_9
        refine w_cs0 (bmX_end hn hb3 (by rw [cps_n]; omega)) (fun y4 ⟨g1, g2⟩ => ?_)
        refine u_X13_smoothIn_12 ?_; unfold qm_X13_smoothIn_12
        rw [nI_1]
        refine aft (A.length - (c + 1)) (c + 1) y4 (by omega) (by omega) (endI hI3 g2) ?_
        rw [cps_0, List.append_nil]
        exact g1
      | succ k ih =>
        intro m y hm hI hb
        have m1 := mono (a := m + 1) (b := c) (by omega)
        have m2 := rn_b_mono A m
        have sm := cps_len (A := A) (Nat.zero_le m)
        rw [rn_b0, Nat.sub_zero] at sm
        refine u_X13_smoothIn_2 ?_; unfold qm_X13_smoothIn_2
        rw [nI_1 v]
        refine w_rdF (atI hI).2.1 (w_leF (by omega) (by omega) (w_ifF (fun e => by have := (nI_eq (by omega) (by omega)).mp e; omega) (w_ifF (by decide) (c10 1 m _ y (by omega) (by rw [cps_n]; omega) (by rw [sm]; omega) (fun y2 hI2 hb2 => ?_) hI hb))))
        refine u_X13_smoothIn_12 ?_; unfold qm_X13_smoothIn_12
        rw [nI_1]
        refine ih (m + 1) y2 (by omega) hI2 ?_
        rw [cps_s (by omega)]
        exact hb2
    refine e_X13_smoothIn ?_
    refine u_X13_smoothIn_0 ?_; unfold qm_X13_smoothIn_0
    refine w_cs0 (tn_clear hn) (fun z3 ⟨b3, f3⟩ => w_cs0 (tn_signs hn ho hon) (fun z4 ⟨f4, s4⟩ => ?_))
    have hI4 : I z4 := ⟨fr_tr (fr_mono (fun g hg => by omega) f3) (fr_mono (fun g hg => by omega) f4), fun x hx => by rw [s4 x hx, (f3 (o + 6) (by omega)).2.1]⟩
    refine w_rdI (pl3 ho) (nI_1 _) (by omega) (bI hI4 (by omega)) (w_leF (by omega) hone ?_)
    refine u_X13_smoothIn_1 ?_; unfold qm_X13_smoothIn_1
    refine bef c 0 z4 (by omega) hI4 ?_
    rw [cps_0]
    exact bmX_fr (C := []) (B := []) f4 (fun g hg => by omega) b3
  · -- two components become one
    have eS : smC A c v w (rn_c A w) = cps A 0 c ++ [((seg (rn_b A c) v ++ seg (w + 1) (rn_b A (J + 1))) ++ seg (rn_b A J) w) ++ seg (v + 1) (rn_b A (c + 1))] ++ cps A (c + 1) J ++ cps A (J + 1) A.length := by
      rw [hJ]
      exact if_neg hone
    have hcJ : c < J := by
      rcases Nat.lt_or_ge c J with h9 | h9
      · exact h9
      · have := mono (a := J + 1) (b := c + 1) (by omega)
        omega
    have mJ := mono (a := c + 1) (b := J) (by omega)
    have mJ2 := rn_b_mono A J
    generalize hK : cps A 0 c ++ [((seg (rn_b A c) v ++ seg (w + 1) (rn_b A (J + 1))) ++ seg (rn_b A J) w) ++ seg (v + 1) (rn_b A (c + 1))] = K0 at eS
    have K0n : K0.length = c + 1 := by
      rw [← hK, List.length_append, cps_n]
      rfl
    have K0l : K0.flatten.length + 2 = rn_b A (c + 1) + (rn_b A (J + 1) - rn_b A J) := by
      rw [← hK, List.flatten_append, List.length_append, s0c, List.flatten_cons, List.flatten_nil, List.append_nil, List.length_append, List.length_append, List.length_append, seg_len, seg_len, seg_len, seg_len]
      omega
    have aft2 : ∀ (k m : Nat) (y : ow_MS), m + k = A.length → J < m → I y → bmX y n A (K0 ++ cps A (c + 1) J ++ cps A (J + 1) m) [] → Tt (fun K i9 => q_X13_smoothIn K i9 2 (nI c) (nI v) (nI w) 0 (nI m) 0 0 o n 0 y) Q := by
      intro k
      induction k with
      | zero =>
        intro m y hm hcm hI hb
        have hme : m = A.length := by omega
        rw [hme] at hb
        refine u_X13_smoothIn_2 ?_; unfold qm_X13_smoothIn_2
        refine w_rdF (atI hI).2.1 (w_leT (by omega) (by omega) (w_ifT rfl (w_some ⟨?_, hI.2, hI.1⟩)))
        rw [eS]
        exact hb
      | succ k ih =>
        intro m y hm hcm hI hb
        have m1 := mono (a := J + 1) (b := m) (by omega)
        have m2 := rn_b_mono A m
        have m3 := hbl2 (m + 1)
        have sa := cps_len (A := A) (show c + 1 ≤ J by omega)
        have sb := cps_len (A := A) (show J + 1 ≤ m by omega)
        refine u_X13_smoothIn_2 ?_; unfold qm_X13_smoothIn_2
        refine w_rdF (atI hI).2.1 (w_leF (by omega) (by omega) (w_ifF (fun e => by have := (nI_eq (by omega) (by omega)).mp e; omega) (w_ifT rfl (w_rdI (pl3 ho) rfl (by omega) (bI hI (by omega)) (w_ltT (by omega) (by omega) (c10 0 m _ y (by omega) ?_ ?_ (fun y2 hI2 hb2 => ?_) hI hb))))))
        · rw [List.length_append, List.length_append, cps_n, cps_n, K0n]
          omega
        · rw [List.flatten_append, List.flatten_append, List.length_append, List.length_append, sa, sb]
          omega
        · refine u_X13_smoothIn_12 ?_; unfold qm_X13_smoothIn_12
          rw [nI_1]
          refine ih (m + 1) y2 (by omega) (by omega) hI2 ?_
          rw [cps_s (by omega), ← List.append_assoc]
          exact hb2
    have aft1 : ∀ (k m : Nat) (y : ow_MS), m + k = J → c < m → I y → bmX y n A (K0 ++ cps A (c + 1) m) [] → Tt (fun K i9 => q_X13_smoothIn K i9 2 (nI c) (nI v) (nI w) 0 (nI m) 0 0 o n 0 y) Q := by
      intro k
      induction k with
      | zero =>
        intro m y hm hcm hI hb
        have hme : m = J := by omega
        rw [hme] at hb ⊢
        refine u_X13_smoothIn_2 ?_; unfold qm_X13_smoothIn_2
        refine w_rdF (atI hI).2.1 (w_leF (by omega) (by omega) (w_ifF (fun e => by have := (nI_eq (by omega) (by omega)).mp e; omega) (w_ifT rfl (w_rdI (pl3 ho) rfl (by omega) (bI hI (by omega)) (w_ltF (by omega) (by omega) (w_rdI (pl3 ho) (nI_1 _) (by omega) (bI hI (by omega)) (w_ltT (by omega) (by omega) ?_)))))))
        refine u_X13_smoothIn_12 ?_; unfold qm_X13_smoothIn_12
        rw [nI_1]
        refine aft2 (A.length - (J + 1)) (J + 1) y (by omega) (by omega) hI ?_
        rw [cps_0, List.append_nil]
        exact hb
      | succ k ih =>
        intro m y hm hcm hI hb
        have m1 := mono (a := c + 1) (b := m) (by omega)
        have m2 := rn_b_mono A m
        have m3 := hbl2 (m + 1)
        have m4 := mono (a := m + 1) (b := J) (by omega)
        have sa := cps_len (A := A) (show c + 1 ≤ m by omega)
        refine u_X13_smoothIn_2 ?_; unfold qm_X13_smoothIn_2
        refine w_rdF (atI hI).2.1 (w_leF (by omega) (by omega) (w_ifF (fun e => by have := (nI_eq (by omega) (by omega)).mp e; omega) (w_ifT rfl (w_rdI (pl3 ho) rfl (by omega) (bI hI (by omega)) (w_ltF (by omega) (by omega) (w_rdI (pl3 ho) (nI_1 _) (by omega) (bI hI (by omega)) (w_ltF (by omega) (by omega) (c10 0 m _ y (by omega) ?_ ?_ (fun y2 hI2 hb2 => ?_) hI hb))))))))
        · rw [List.length_append, cps_n, K0n]
          omega
        · rw [List.flatten_append, List.length_append, sa]
          omega
        · refine u_X13_smoothIn_12 ?_; unfold qm_X13_smoothIn_12
          rw [nI_1]
          refine ih (m + 1) y2 (by omega) (by omega) hI2 ?_
          rw [cps_s (by omega), ← List.append_assoc]
          exact hb2
    have l8 : ∀ (k i : Nat) (y : ow_MS), i + k = rn_b A (c + 1) → v + 1 ≤ i → I y → bmX y n A (cps A 0 c) (((seg (rn_b A c) v ++ seg (w + 1) (rn_b A (J + 1))) ++ seg (rn_b A J) w) ++ seg (v + 1) i) → (∀ y2, I y2 → bmX y2 n A (cps A 0 c) (((seg (rn_b A c) v ++ seg (w + 1) (rn_b A (J + 1))) ++ seg (rn_b A J) w) ++ seg (v + 1) (rn_b A (c + 1))) → Tt (fun K i9 => q_X13_smoothIn K i9 9 (nI c) (nI v) (nI w) 0 (nI c) (nI J) 0 o n 0 y2) Q) → Tt (fun K i9 => q_X13_smoothIn K i9 8 (nI c) (nI v) (nI w) 0 (nI c) (nI J) (nI i) o n 0 y) Q := by
      intro k
      induction k with
      | zero =>
        intro i y hi hlo hI hb hout
        have hie : i = rn_b A (c + 1) := by omega
        rw [hie] at hb ⊢
        refine u_X13_smoothIn_8 ?_; unfold qm_X13_smoothIn_8
        exact w_rdI (pl3 ho) (nI_1 _) (by omega) (bI hI (by omega)) (w_leT (by omega) (Nat.le_refl _) (hout y hI hb))
      | succ k ih =>
        intro i y hi hlo hI hb hout
        have hil : i < A.flatten.length := by omega
        refine u_X13_smoothIn_8 ?_; unfold qm_X13_smoothIn_8
        refine w_rdI (pl3 ho) (nI_1 _) (by omega) (bI hI (by omega)) (w_leF (by omega) (by omega) (w_rdI (pl4 ho) rfl (by omega) (cuI hI hil).1 (w_rdI (pl5 ho) rfl (by omega) (cuI hI hil).2 (w_cs0 (bmX_add hn hb (by rw [s0c, List.length_append, List.length_append, List.length_append, seg_len, seg_len, seg_len, seg_len]; omega)) (fun y2 ⟨g1, g2⟩ => ?_)))))
        rw [nI_1]
        refine ih (i + 1) y2 (by omega) (by omega) (addI hI g2) ?_ hout
        rw [seg_s hlo, ← List.append_assoc]
        exact g1
    have l7 : ∀ (k i : Nat) (y : ow_MS), i + k = w → rn_b A J ≤ i → I y → bmX y n A (cps A 0 c) ((seg (rn_b A c) v ++ seg (w + 1) (rn_b A (J + 1))) ++ seg (rn_b A J) i) → (∀ y2, I y2 → bmX y2 n A (cps A 0 c) ((seg (rn_b A c) v ++ seg (w + 1) (rn_b A (J + 1))) ++ seg (rn_b A J) w) → Tt (fun K i9 => q_X13_smoothIn K i9 8 (nI c) (nI v) (nI w) 0 (nI c) (nI J) (nI (v + 1)) o n 0 y2) Q) → Tt (fun K i9 => q_X13_smoothIn K i9 7 (nI c) (nI v) (nI w) 0 (nI c) (nI J) (nI i) o n 0 y) Q := by
      intro k
      induction k with
      | zero =>
        intro i y hi hlo hI hb hout
        have hie : i = w := by omega
        rw [hie] at hb ⊢
        refine u_X13_smoothIn_7 ?_; unfold qm_X13_smoothIn_7
        rw [nI_1 v]
        exact (w_leT (by omega) (Nat.le_refl _) (hout y hI hb))
      | succ k ih =>
        intro i y hi hlo hI hb hout
        have hil : i < A.flatten.length := by omega
        refine u_X13_smoothIn_7 ?_; unfold qm_X13_smoothIn_7
        rw [nI_1 v]
        refine (w_leF (by omega) (by omega) (w_rdI (pl4 ho) rfl (by omega) (cuI hI hil).1 (w_rdI (pl5 ho) rfl (by omega) (cuI hI hil).2 (w_cs0 (bmX_add hn hb (by rw [s0c, List.length_append, List.length_append, seg_len, seg_len, seg_len]; omega)) (fun y2 ⟨g1, g2⟩ => ?_)))))
        rw [nI_1]
        refine ih (i + 1) y2 (by omega) (by omega) (addI hI g2) ?_ hout
        rw [seg_s hlo, ← List.append_assoc]
        exact g1
    have l6 : ∀ (k i : Nat) (y : ow_MS), i + k = rn_b A (J + 1) → w + 1 ≤ i → I y → bmX y n A (cps A 0 c) (seg (rn_b A c) v ++ seg (w + 1) i) → (∀ y2, I y2 → bmX y2 n A (cps A 0 c) (seg (rn_b A c) v ++ seg (w + 1) (rn_b A (J + 1))) → Tt (fun K i9 => q_X13_smoothIn K i9 7 (nI c) (nI v) (nI w) 0 (nI c) (nI J) (nI (rn_b A J)) o n 0 y2) Q) → Tt (fun K i9 => q_X13_smoothIn K i9 6 (nI c) (nI v) (nI w) 0 (nI c) (nI J) (nI i) o n 0 y) Q := by
      intro k
      induction k with
      | zero =>
        intro i y hi hlo hI hb hout
        have hie : i = rn_b A (J + 1) := by omega
        rw [hie] at hb ⊢
        refine u_X13_smoothIn_6 ?_; unfold qm_X13_smoothIn_6
        exact w_rdI (pl3 ho) (nI_1 _) (by omega) (bI hI (by omega)) (w_leT (by omega) (Nat.le_refl _) (w_rdI (pl3 ho) rfl (by omega) (bI hI (by omega)) (hout y hI hb)))
      | succ k ih =>
        intro i y hi hlo hI hb hout
        have hil : i < A.flatten.length := by omega
        refine u_X13_smoothIn_6 ?_; unfold qm_X13_smoothIn_6
        refine w_rdI (pl3 ho) (nI_1 _) (by omega) (bI hI (by omega)) (w_leF (by omega) (by omega) (w_rdI (pl4 ho) rfl (by omega) (cuI hI hil).1 (w_rdI (pl5 ho) rfl (by omega) (cuI hI hil).2 (w_cs0 (bmX_add hn hb (by rw [s0c, List.length_append, seg_len, seg_len]; omega)) (fun y2 ⟨g1, g2⟩ => ?_)))))
        rw [nI_1]
        refine ih (i + 1) y2 (by omega) (by omega) (addI hI g2) ?_ hout
        rw [seg_s hlo, ← List.append_assoc]
        exact g1
    have l3 : ∀ (k i : Nat) (y : ow_MS), i + k = v → rn_b A c ≤ i → I y → bmX y n A (cps A 0 c) (seg (rn_b A c) i) → (∀ y2, I y2 → bmX y2 n A (cps A 0 c) (seg (rn_b A c) v) → Tt (fun K i9 => q_X13_smoothIn K i9 5 (nI c) (nI v) (nI w) 0 (nI c) 0 0 o n 0 y2) Q) → Tt (fun K i9 => q_X13_smoothIn K i9 3 (nI c) (nI v) (nI w) 0 (nI c) (nI i) 0 o n 0 y) Q := by
      intro k
      induction k with
      | zero =>
        intro i y hi hlo hI hb hout
        have hie : i = v := by omega
        rw [hie] at hb ⊢
        refine u_X13_smoothIn_3 ?_; unfold qm_X13_smoothIn_3
        exact w_leT (by omega) (Nat.le_refl _) (w_ifT rfl (hout y hI hb))
      | succ k ih =>
        intro i y hi hlo hI hb hout
        have hil : i < A.flatten.length := by omega
        refine u_X13_smoothIn_3 ?_; unfold qm_X13_smoothIn_3
        refine (w_leF (by omega) (by omega) (w_rdI (pl4 ho) rfl (by omega) (cuI hI hil).1 (w_rdI (pl5 ho) rfl (by omega) (cuI hI hil).2 (w_cs0 (bmX_add hn hb (by rw [s0c, seg_len]; omega)) (fun y2 ⟨g1, g2⟩ => ?_)))))
        rw [nI_1]
        refine ih (i + 1) y2 (by omega) (by omega) (addI hI g2) ?_ hout
        rw [seg_s hlo]
        exact g1
    have mid : ∀ y, I y → bmX y n A (cps A 0 c) (seg (rn_b A c) v) → Tt (fun K i9 => q_X13_smoothIn K i9 6 (nI c) (nI v) (nI w) 0 (nI c) (nI J) (nI (w + 1)) o n 0 y) Q := by
      intro y hI hb
      refine l6 (rn_b A (J + 1) - (w + 1)) (w + 1) y (by omega) (Nat.le_refl _) hI (by rw [seg_0, List.append_nil]; exact hb) (fun y2 hI2 hb2 => l7 (w - rn_b A J) (rn_b A J) y2 (by omega) (Nat.le_refl _) hI2 (by rw [seg_0, List.append_nil]; exact hb2) (fun y3 hI3 hb3 => l8 (rn_b A (c + 1) - (v + 1)) (v + 1) y3 (by omega) (Nat.le_refl _) hI3 (by rw [seg_0, List.append_nil]; exact hb3) (fun y4 hI4 hb4 => ?_)))
      refine u_X13_smoothIn_9 ?_; unfold qm_X13_smoothIn_9
      refine w_cs0 (bmX_end hn hb4 (by rw [cps_n]; omega)) (fun y5 ⟨g1, g2⟩ => ?_)
      refine u_X13_smoothIn_12 ?_; unfold qm_X13_smoothIn_12
      rw [nI_1]
      refine aft1 (J - (c + 1)) (c + 1) y5 (by omega) (by omega) (endI hI4 g2) ?_
      rw [cps_0, List.append_nil, ← hK]
      exact g1
    have l5 : ∀ (k m : Nat) (y : ow_MS), m + k = J → I y → bmX y n A (cps A 0 c) (seg (rn_b A c) v) → Tt (fun K i9 => q_X13_smoothIn K i9 5 (nI c) (nI v) (nI w) 0 (nI c) (nI m) 0 o n 0 y) Q := by
      intro k
      induction k with
      | zero =>
        intro m y hm hI hb
        have hme : m = J := by omega
        rw [hme]
        refine u_X13_smoothIn_5 ?_; unfold qm_X13_smoothIn_5
        rw [nI_1 w]
        exact w_rdI (pl3 ho) (nI_1 _) (by omega) (bI hI (by omega)) (w_ltT (by omega) hJ3 (mid y hI hb))
      | succ k ih =>
        intro m y hm hI hb
        have m1 := mono (a := m + 1) (b := J) (by omega)
        refine u_X13_smoothIn_5 ?_; unfold qm_X13_smoothIn_5
        refine w_rdI (pl3 ho) (nI_1 _) (by omega) (bI hI (by omega)) (w_ltF (by omega) (by omega) ?_)
        rw [nI_1]
        exact ih (m + 1) y (by omega) hI hb
    have bef : ∀ (k m : Nat) (y : ow_MS), m + k = c → I y → bmX y n A (cps A 0 m) [] → Tt (fun K i9 => q_X13_smoothIn K i9 2 (nI c) (nI v) (nI w) 0 (nI m) 0 0 o n 0 y) Q := by
      intro k
      induction k with
      | zero =>
        intro m y hm hI hb
        have hme : m = c := by omega
        rw [hme] at hb ⊢
        refine u_X13_smoothIn_2 ?_; unfold qm_X13_smoothIn_2
        exact w_rdF (atI hI).2.1 (w_leF (by omega) (by omega) (w_ifT rfl (w_rdI (pl3 ho) rfl (by omega) (bI hI (by omega)) (l3 (v - rn_b A c) (rn_b A c) y (by omega) (Nat.le_refl _) hI (by rw [seg_0]; exact hb) (fun y2 hI2 hb2 => l5 J 0 y2 (by omega) hI2 hb2)))))
      | succ k ih =>
        intro m y hm hI hb
        have m1 := mono (a := m + 1) (b := c) (by omega)
        have m2 := rn_b_mono A m
        have m5 := mono (a := m + 1) (b := J) (by omega)
        have sm := cps_len (A := A) (Nat.zero_le m)
        rw [rn_b0, Nat.sub_zero] at sm
        refine u_X13_smoothIn_2 ?_; unfold qm_X13_smoothIn_2
        refine w_rdF (atI hI).2.1 (w_leF (by omega) (by omega) (w_ifF (fun e => by have := (nI_eq (by omega) (by omega)).mp e; omega) (w_ifT rfl (w_rdI (pl3 ho) rfl (by omega) (bI hI (by omega)) (w_ltF (by omega) (by omega) (w_rdI (pl3 ho) (nI_1 _) (by omega) (bI hI (by omega)) (w_ltF (by omega) (by omega) (c10 0 m _ y (by omega) (by rw [cps_n]; omega) (by rw [sm]; omega) (fun y2 hI2 hb2 => ?_) hI hb))))))))
        refine u_X13_smoothIn_12 ?_; unfold qm_X13_smoothIn_12
        rw [nI_1]
        refine ih (m + 1) y2 (by omega) hI2 ?_
        rw [cps_s (by omega)]
        exact hb2
    refine e_X13_smoothIn ?_
    refine u_X13_smoothIn_0 ?_; unfold qm_X13_smoothIn_0
    refine w_cs0 (tn_clear hn) (fun z3 ⟨b3, f3⟩ => w_cs0 (tn_signs hn ho hon) (fun z4 ⟨f4, s4⟩ => ?_))
    have hI4 : I z4 := ⟨fr_tr (fr_mono (fun g hg => by omega) f3) (fr_mono (fun g hg => by omega) f4), fun x hx => by rw [s4 x hx, (f3 (o + 6) (by omega)).2.1]⟩
    refine w_rdI (pl3 ho) (nI_1 _) (by omega) (bI hI4 (by omega)) (w_leT (by omega) (by omega) ?_)
    refine u_X13_smoothIn_1 ?_; unfold qm_X13_smoothIn_1
    refine bef c 0 z4 (by omega) hI4 ?_
    rw [cps_0]
    exact bmX_fr (C := []) (B := []) f4 (fun g hg => by omega) b3
end
section
/-! 99zzzzzzzzzi.ism -/
/-! a smoothed net shows the smoothed components -/
theorem isoV_lists {A A1 : rn_L} {sg : Nat → Bool} {f : Nat → Nat} {T : ow_NT} (h : isoV A sg f T) (hp : A1.flatten.Perm A.flatten) (hc : cirs A1 = cirs A) (hL : ∀ L, L ∈ A1 → ∀ p, p ∈ L → ∃ L0, L0 ∈ A ∧ p ∈ L0 ∧ sc L p = sc L0 p) : isoV A1 sg f T := by
  refine isoV_of (isoS_iff.mp ⟨wkF_perm hp h.1.1, by rw [hp.length_eq]; exact h.1.2.1, h.1.2.2.1, fun p h9 => h.1.2.2.2.1 p (hp.mem_iff.mp h9), fun p q h8 h9 e => h.1.2.2.2.2.1 p q (hp.mem_iff.mp h8) (hp.mem_iff.mp h9) e, fun L l1 p p1 => ?_, fun p h9 => h.1.2.2.2.2.2.2.1 p (hp.mem_iff.mp h9), by rw [hc]; exact h.1.2.2.2.2.2.2.2⟩) (isoV_vn h)
  obtain ⟨L0, a1, a2, a3⟩ := hL L l1 p p1
  rw [a3]
  exact (h.2 L0 a1 p a2).1
theorem iso_exch {A A1 : rn_L} {sg : Nat → Bool} {f : Nat → Nat} {T : ow_NT} {p q : vT} (h : isoV A sg f T) (hpA : p ∈ A.flatten) (hqA : q ∈ A.flatten) (hpq : p ≠ q) (hp : A1.flatten.Perm A.flatten) (hc : cirs A1 = cirs A) (hL : ∀ L, L ∈ A1 → ∀ r, r ∈ L → (r = p → ∃ L0, L0 ∈ A ∧ q ∈ L0 ∧ sc L r = sc L0 q) ∧ (r = q → ∃ L0, L0 ∈ A ∧ p ∈ L0 ∧ sc L r = sc L0 p) ∧ (r ≠ p → r ≠ q → ∃ L0, L0 ∈ A ∧ r ∈ L0 ∧ sc L r = sc L0 r)) : isoV A1 sg f (T.1, T.2.1, np_exchange T.2.2.1 (gl f p) (gl f q), T.2.2.2) := by
  have hv := isoV_vn h
  refine isoV_of (isoS_iff.mp ⟨wkF_perm hp h.1.1, by rw [hp.length_eq]; exact h.1.2.1, h.1.2.2.1, fun p h9 => h.1.2.2.2.1 p (hp.mem_iff.mp h9), fun p q h8 h9 e => h.1.2.2.2.2.1 p q (hp.mem_iff.mp h8) (hp.mem_iff.mp h9) e, fun L l1 r r1 => ?_, fun p h9 => h.1.2.2.2.2.2.2.1 p (hp.mem_iff.mp h9), by rw [hc]; exact h.1.2.2.2.2.2.2.2⟩) (vn_exchange hv (gl_lt h hpA) (gl_lt h hqA))
  have rA : r ∈ A.flatten := hp.mem_iff.mp (List.mem_flatten.mpr ⟨L, l1, r1⟩)
  obtain ⟨k1, k2, k3⟩ := hL L l1 r r1
  show (np_exchange T.2.2.1 (gl f p) (gl f q)).1 (gl f r) = gl f (sc L r)
  rw [np_exchange_1]
  by_cases e1 : r = q
  · obtain ⟨L0, a1, a2, a3⟩ := k2 e1
    rw [if_pos (by rw [e1]), a3]
    exact (h.2 L0 a1 p a2).1
  · rw [if_neg (fun e => e1 (gl_gin h.1 r q rA hqA e))]
    by_cases e2 : r = p
    · obtain ⟨L0, a1, a2, a3⟩ := k1 e2
      rw [if_pos (by rw [e2]), a3]
      exact (h.2 L0 a1 q a2).1
    · obtain ⟨L0, a1, a2, a3⟩ := k3 e2 e1
      rw [if_neg (fun e => e2 (gl_gin h.1 r p rA hpA e)), a3]
      exact (h.2 L0 a1 r a2).1
theorem ex_comm {c : Nat} {S : ow_NP} (hv : vn c S) {v w : Nat} (h1 : v < 2 * c) (h2 : w < 2 * c) (hne : v ≠ w) : np_exchange S v w = np_exchange S w v := by
  have hi : S.1 v ≠ S.1 w := fun e => hne (vn_inj hv h1 h2 e)
  refine Prod.ext (funext fun k => ?_) (funext fun k => ?_)
  · rw [np_exchange_1, np_exchange_1]
    by_cases e1 : k = w
    · rw [if_pos e1, if_neg (fun e => hne (e.symm.trans e1)), if_pos e1]
    · rw [if_neg e1]
      by_cases e2 : k = v
      · rw [if_pos e2, if_pos e2]
      · rw [if_neg e2, if_neg e2, if_neg e1]
  · rw [np_exchange_2, np_exchange_2]
    by_cases e1 : k = S.1 v
    · rw [if_pos e1, if_neg (fun e => hi (e1.symm.trans e)), if_pos e1]
    · rw [if_neg e1]
      by_cases e2 : k = S.1 w
      · rw [if_pos e2, if_pos e2]
      · rw [if_neg e2, if_neg e2, if_neg e1]
theorem woL {x : Nat} {L : List vT} (h : ∀ r, r ∈ L → r.2 < 2) : (L.filter (fun r => decide (r ≠ (x, 0)))).filter (fun r => decide (r ≠ (x, 1))) = L.filter (fun r => decide (r.1 ≠ x)) := by
  rw [List.filter_filter]
  refine List.filter_congr (fun r hr => ?_)
  have h2 := h r hr
  obtain ⟨a, u⟩ := r
  dsimp only at h2 ⊢
  by_cases e : a = x
  · subst e
    rcases (show u = 0 ∨ u = 1 by omega) with rfl | rfl
    · simp
    · simp
  · have n0 : (a, u) ≠ ((x, 0) : vT) := fun e9 => e (Prod.mk.inj e9).1
    have n1 : (a, u) ≠ ((x, 1) : vT) := fun e9 => e (Prod.mk.inj e9).1
    rw [decide_eq_true n0, decide_eq_true n1, decide_eq_true e]
    rfl
theorem fil_k {x : Nat} {L : List vT} (h : ∀ r, r ∈ L → r.1 ≠ x) : L.filter (fun r => decide (r.1 ≠ x)) = L := List.filter_eq_self.mpr (fun r hr => decide_eq_true (h r hr))
theorem cirs_cons (L : List vT) (A : rn_L) : cirs (L :: A) = (if L = [] then 1 else 0) + cirs A := by
  unfold cirs
  rw [List.countP_cons]
  cases L with
  | nil =>
    simp
    omega
  | cons a X => simp
theorem cirs_ne {L : List vT} {A : rn_L} (h : L ≠ []) : cirs (L :: A) = cirs A := by
  rw [cirs_cons, if_neg h, Nat.zero_add]
section ISM
variable {A : rn_L} {sg : Nat → Bool} {f : Nat → Nat} {T : ow_NT} {P Mi Po : rn_L} {X Y Z W : List vT} {p q : vT}
/-- the visits of a crossing parted or joined, then taken out -/
theorem iso_sm0 {A1 : rn_L} {x : Nat} (h : isoV A1 sg f (T.1, T.2.1, np_exchange T.2.2.1 (gl f p) (gl f q), T.2.2.2)) (hv : vn T.1 T.2.2.1) (hp : p.1 = x) (hq : q = (x, 1 - p.2)) (hp2 : p.2 < 2) (hpA : p ∈ A1.flatten) : ∃ f', isoV (A1.map (List.filter (fun r => decide (r.1 ≠ x)))) sg f' (ntSm T (f x)) := by
  have hF := h.1.1
  have hqA : q ∈ A1.flatten := by
    have := (hF.2 p hpA).2.2
    rw [hp, ← hq] at this
    exact this
  have x0 : (x, 0) ∈ A1.flatten ∧ (p = (x, 0) ∧ q = (x, 1) ∨ p = (x, 1) ∧ q = (x, 0)) := by
    rcases (show p.2 = 0 ∨ p.2 = 1 by omega) with e | e
    · have e1 : p = (x, 0) := Prod.ext hp e
      rw [e] at hq
      exact ⟨by rw [← e1]; exact hpA, Or.inl ⟨e1, hq⟩⟩
    · have e1 : p = (x, 1) := Prod.ext hp e
      rw [e] at hq
      exact ⟨by have hq' : q = (x, 0) := hq; rw [← hq']; exact hqA, Or.inr ⟨e1, hq⟩⟩
  obtain ⟨f', k1, -⟩ := iso_rm h x0.1
  refine ⟨f', ?_⟩
  have ew : wox A1 x = A1.map (List.filter (fun r => decide (r.1 ≠ x))) := by
    unfold wox rmv
    rw [List.map_map]
    exact List.map_congr_left (fun L hL => woL (fun r hr => (hF.2 r (List.mem_flatten.mpr ⟨L, hL, hr⟩)).2.1))
  rw [ew] at k1
  have hfx : f x < T.1 := h.1.2.2.2.1 _ x0.1
  have eT : nt_rm (T.1, T.2.1, np_exchange T.2.2.1 (gl f p) (gl f q), T.2.2.2) (f x) = ntSm T (f x) := by
    unfold ntSm
    rcases x0.2 with ⟨e1, e2⟩ | ⟨e1, e2⟩
    · rw [e1, e2]
      rfl
    · rw [e1, e2]
      rw [show np_exchange T.2.2.1 (gl f (x, 1)) (gl f (x, 0)) = np_exchange T.2.2.1 (2 * f x) (2 * f x + 1) from ex_comm (v := 2 * f x + 1) (w := 2 * f x) hv (by omega) (by omega) (by omega)]
  rw [eT] at k1
  exact k1
theorem nd_of {L : List vT} {p q : vT} (hF : wkF A.flatten) (hL : L ∈ A) {x : Nat} (hp : p = (x, 0) ∧ q = (x, 1) ∨ p = (x, 1) ∧ q = (x, 0)) {r : vT} (hr : r ∈ L) (h1 : r ≠ p) (h2 : r ≠ q) : r.1 ≠ x := fun e => by
  have h3 := (hF.2 r (List.mem_flatten.mpr ⟨L, hL, hr⟩)).2.1
  rcases (show r.2 = 0 ∨ r.2 = 1 by omega) with e2 | e2
  · have e3 : r = (x, 0) := Prod.ext e e2
    rcases hp with ⟨e4, e5⟩ | ⟨e4, e5⟩
    · exact h1 (e3.trans e4.symm)
    · exact h2 (e3.trans e5.symm)
  · have e3 : r = (x, 1) := Prod.ext e e2
    rcases hp with ⟨e4, e5⟩ | ⟨e4, e5⟩
    · exact h2 (e3.trans e5.symm)
    · exact h1 (e3.trans e4.symm)
/-- both visits in one component -/
theorem iso_sm1 {x : Nat} (hAe : A = P ++ (X ++ p :: (Y ++ q :: Z)) :: Po) (h : isoV A sg f T) (hx : p = (x, 0) ∧ q = (x, 1) ∨ p = (x, 1) ∧ q = (x, 0)) : ∃ f', isoV (P ++ (X ++ Z) :: Po ++ [Y]) sg f' (ntSm T (f x)) := by
  have hF := h.1.1
  have hv := isoV_vn h
  have hLA : X ++ p :: (Y ++ q :: Z) ∈ A := by rw [hAe]; exact List.mem_append_right _ List.mem_cons_self
  have nL := L_nd hF.1 hLA
  have hpL : p ∈ X ++ p :: (Y ++ q :: Z) := List.mem_append_right _ List.mem_cons_self
  have hqL : q ∈ X ++ p :: (Y ++ q :: Z) := List.mem_append_right _ (List.mem_cons_of_mem _ (List.mem_append_right _ List.mem_cons_self))
  have hpq : p ≠ q := by
    rcases hx with ⟨rfl, rfl⟩ | ⟨rfl, rfl⟩
    · exact fun e => absurd (Prod.mk.inj e).2 (by decide)
    · exact fun e => absurd (Prod.mk.inj e).2 (by decide)
  have eR : X ++ p :: (Y ++ q :: Z) = (X ++ p :: (Y ++ [q])) ++ Z := by simp
  have eR2 : Z ++ (X ++ p :: (Y ++ [q])) = ((Z ++ X) ++ [p]) ++ (Y ++ [q]) := by simp
  have nR : (((Z ++ X) ++ [p]) ++ (Y ++ [q])).Nodup := by
    rw [← eR2]
    refine nd_rot ?_
    rw [← eR]
    exact nL
  have memR : ∀ r, r ∈ ((Z ++ X) ++ [p]) ++ (Y ++ [q]) ↔ r ∈ X ++ p :: (Y ++ q :: Z) := fun r => by
    simp only [List.mem_append, List.mem_cons, List.mem_singleton]
    grind
  have scR : ∀ r, r ∈ X ++ p :: (Y ++ q :: Z) → sc (((Z ++ X) ++ [p]) ++ (Y ++ [q])) r = sc (X ++ p :: (Y ++ q :: Z)) r := fun r hr => by
    have hn2 : ((X ++ p :: (Y ++ [q])) ++ Z).Nodup := by rw [← eR]; exact nL
    have := sc_rot (p := r) hn2 (by rw [← eR]; exact hr)
    rw [eR2, ← eR] at this
    exact this
  have otherL : ∀ L, L ∈ P ++ Po → L ∈ A := fun L hL => by
    rw [hAe]
    rcases List.mem_append.mp hL with h9 | h9
    · exact List.mem_append_left _ h9
    · exact List.mem_append_right _ (List.mem_cons_of_mem _ h9)
  have otherN : ∀ L, L ∈ P ++ Po → ∀ r, r ∈ L → r ≠ p ∧ r ≠ q := fun L hL r hr => by
    have hn := hF.1
    rw [hAe, List.flatten_append, List.flatten_cons] at hn
    have dis : ∀ s, s ∈ X ++ p :: (Y ++ q :: Z) → r ≠ s := fun s hs e => by
      obtain ⟨n1, n2, n3⟩ := List.nodup_append.mp hn
      obtain ⟨m1, m2, m3⟩ := List.nodup_append.mp n2
      rcases List.mem_append.mp hL with h9 | h9
      · exact n3 r (List.mem_flatten.mpr ⟨L, h9, hr⟩) s (List.mem_append_left _ hs) e
      · exact m3 s hs r (List.mem_flatten.mpr ⟨L, h9, hr⟩) e.symm
    exact ⟨dis p hpL, dis q hqL⟩
  let A1 : rn_L := P ++ ((Z ++ X) ++ [p]) :: Po ++ [Y ++ [q]]
  have perm1 : A1.flatten.Perm A.flatten := by
    rw [hAe]
    show (P ++ ((Z ++ X) ++ [p]) :: Po ++ [Y ++ [q]]).flatten.Perm _
    refine List.perm_iff_count.mpr (fun a => ?_)
    simp only [List.flatten_append, List.flatten_cons, List.flatten_nil, List.count_append, List.count_cons, List.count_nil]
    omega
  have cirs1 : cirs A1 = cirs A := by
    rw [hAe]
    show cirs (P ++ ((Z ++ X) ++ [p]) :: Po ++ [Y ++ [q]]) = _
    rw [cirs_app2, cirs_app2, cirs_app2, cirs_ne (by simp), cirs_ne (by simp), cirs_ne (by simp)]
    show cirs P + cirs Po + 0 = _
    omega
  have hpA : p ∈ A.flatten := List.mem_flatten.mpr ⟨_, hLA, hpL⟩
  have hqA : q ∈ A.flatten := List.mem_flatten.mpr ⟨_, hLA, hqL⟩
  have dis : ∀ r, r ∈ (Z ++ X) ++ [p] → r ∈ Y ++ [q] → False := fun r h1 h2 => (List.nodup_append.mp nR).2.2 r h1 r h2 rfl
  have key1 : isoV A1 sg f (T.1, T.2.1, np_exchange T.2.2.1 (gl f p) (gl f q), T.2.2.2) := by
    refine iso_exch h hpA hqA hpq perm1 cirs1 (fun L hL r hr => ?_)
    have hL : L ∈ P ++ Po ∨ L = (Z ++ X) ++ [p] ∨ L = Y ++ [q] := by
      have hL : L ∈ P ++ ((Z ++ X) ++ [p]) :: Po ++ [Y ++ [q]] := hL
      rcases List.mem_append.mp hL with h9 | h9
      · rcases List.mem_append.mp h9 with h8 | h8
        · exact Or.inl (List.mem_append_left _ h8)
        · rcases List.mem_cons.mp h8 with h7 | h7
          · exact Or.inr (Or.inl h7)
          · exact Or.inl (List.mem_append_right _ h7)
      · exact Or.inr (Or.inr (List.mem_singleton.mp h9))
    rcases hL with hL | rfl | rfl
    · obtain ⟨n1, n2⟩ := otherN L hL r hr
      exact ⟨fun e => absurd e n1, fun e => absurd e n2, fun _ _ => ⟨L, otherL L hL, hr, rfl⟩⟩
    · have hs := sc_spl1 nR hr
      have hrR := (memR r).mp (List.mem_append_left _ hr)
      refine ⟨fun e => ⟨_, hLA, hqL, ?_⟩, fun e => absurd (List.mem_append_right _ (by rw [e]; exact List.mem_singleton.mpr rfl)) (fun h9 => dis r hr h9), fun e1 _ => ⟨_, hLA, hrR, ?_⟩⟩
      · rw [hs, if_pos e, scR q hqL]
      · rw [hs, if_neg e1, scR r hrR]
    · have hs := sc_spl2 nR hr
      have hrR := (memR r).mp (List.mem_append_right _ hr)
      refine ⟨fun e => absurd (List.mem_append_right _ (by rw [e]; exact List.mem_singleton.mpr rfl)) (fun h9 => dis r h9 hr), fun e => ⟨_, hLA, hpL, ?_⟩, fun _ e2 => ⟨_, hLA, hrR, ?_⟩⟩
      · rw [hs, if_pos e, scR p hpL]
      · rw [hs, if_neg e2, scR r hrR]
  have hp1 : p.1 = x ∧ q = (x, 1 - p.2) ∧ p.2 < 2 := by
    rcases hx with ⟨rfl, rfl⟩ | ⟨rfl, rfl⟩
    · exact ⟨rfl, rfl, by show 0 < 2; omega⟩
    · exact ⟨rfl, rfl, by show 1 < 2; omega⟩
  obtain ⟨f', k1⟩ := iso_sm0 key1 hv hp1.1 hp1.2.1 hp1.2.2 (perm1.mem_iff.mpr hpA)
  have hq1 : q.1 = x := by rw [hp1.2.1]
  have notx : ∀ r, r ∈ X ++ p :: (Y ++ q :: Z) → r ≠ p → r ≠ q → r.1 ≠ x := fun r hr h1 h2 => nd_of hF hLA hx hr h1 h2
  have fo1 : ∀ L, L ∈ P ++ Po → L.filter (fun r => decide (r.1 ≠ x)) = L := fun L hL => fil_k (fun r hr => nd_of hF (otherL L hL) hx hr (otherN L hL r hr).1 (otherN L hL r hr).2)
  have inZX : ∀ r, r ∈ Z ++ X → r.1 ≠ x := fun r hr => notx r ((memR r).mp (List.mem_append_left _ (List.mem_append_left _ hr))) (fun e => by
    have nn := (List.nodup_append.mp nR).1
    exact (List.nodup_append.mp nn).2.2 r hr p (List.mem_singleton.mpr rfl) e) (fun e => dis r (List.mem_append_left _ hr) (by rw [e]; exact List.mem_append_right _ (List.mem_singleton.mpr rfl)))
  have inY : ∀ r, r ∈ Y → r.1 ≠ x := fun r hr => notx r ((memR r).mp (List.mem_append_right _ (List.mem_append_left _ hr))) (fun e => dis r (by rw [e]; exact List.mem_append_right _ (List.mem_singleton.mpr rfl)) (List.mem_append_left _ hr)) (fun e => by
    have nn := (List.nodup_append.mp nR).2.1
    exact (List.nodup_append.mp nn).2.2 r hr q (List.mem_singleton.mpr rfl) e)
  have f1 : ((Z ++ X) ++ [p]).filter (fun r => decide (r.1 ≠ x)) = Z ++ X := by
    rw [List.filter_append, fil_k inZX, List.filter_cons_of_neg (by rw [hp1.1]; simp), List.filter_nil, List.append_nil]
  have f2 : (Y ++ [q]).filter (fun r => decide (r.1 ≠ x)) = Y := by
    rw [List.filter_append, fil_k inY, List.filter_cons_of_neg (by rw [hq1]; simp), List.filter_nil, List.append_nil]
  have fP : P.map (List.filter (fun r => decide (r.1 ≠ x))) = P := by
    conv => rhs; rw [← List.map_id P]
    exact List.map_congr_left (fun L hL => fo1 L (List.mem_append_left _ hL))
  have fPo : Po.map (List.filter (fun r => decide (r.1 ≠ x))) = Po := by
    conv => rhs; rw [← List.map_id Po]
    exact List.map_congr_left (fun L hL => fo1 L (List.mem_append_right _ hL))
  have eA1 : A1.map (List.filter (fun r => decide (r.1 ≠ x))) = P ++ (Z ++ X) :: Po ++ [Y] := by
    show (P ++ ((Z ++ X) ++ [p]) :: Po ++ [Y ++ [q]]).map _ = _
    rw [List.map_append, List.map_append, List.map_cons, List.map_cons, List.map_nil, f1, f2, fP, fPo]
  rw [eA1] at k1
  refine ⟨f', isoV_lists k1 ?_ ?_ (fun L hL r hr => ?_)⟩
  · refine List.perm_iff_count.mpr (fun a => ?_)
    simp only [List.flatten_append, List.flatten_cons, List.flatten_nil, List.count_append, List.count_nil]
    omega
  · rw [cirs_app2, cirs_app2, cirs_app2, cirs_app2, cirs_cons (X ++ Z), cirs_cons (Z ++ X)]
    have : (X ++ Z = []) ↔ (Z ++ X = []) := by
      rw [List.append_eq_nil_iff, List.append_eq_nil_iff]
      exact And.comm
    simp only [this]
  · rcases List.mem_append.mp hL with h9 | h9
    · rcases List.mem_append.mp h9 with h8 | h8
      · exact ⟨L, List.mem_append_left _ (List.mem_append_left _ h8), hr, rfl⟩
      · rcases List.mem_cons.mp h8 with h7 | h7
        · have nZX : (Z ++ X).Nodup := by
            have nn := (List.nodup_append.mp nR).1
            exact (List.nodup_append.mp nn).1
          have hrZ : r ∈ Z ++ X := by
            rw [h7] at hr
            rcases List.mem_append.mp hr with h6 | h6
            · exact List.mem_append_right _ h6
            · exact List.mem_append_left _ h6
          refine ⟨Z ++ X, List.mem_append_left _ (List.mem_append_right _ List.mem_cons_self), hrZ, ?_⟩
          rw [h7]
          exact sc_rot nZX hrZ
        · exact ⟨L, List.mem_append_left _ (List.mem_append_right _ (List.mem_cons_of_mem _ h7)), hr, rfl⟩
    · exact ⟨L, List.mem_append_right _ h9, hr, rfl⟩
end ISM
end
section
/-! 99zzzzzzzzzj.ism2 -/
/-! two components become one; the lists that smoothing leaves -/
section ISN
variable {A : rn_L} {sg : Nat → Bool} {f : Nat → Nat} {T : ow_NT} {P Mi Po : rn_L} {X X' W W' : List vT} {p q : vT}
theorem iso_sm2 {x : Nat} (hAe : A = P ++ (X ++ p :: X') :: (Mi ++ (W ++ q :: W') :: Po)) (h : isoV A sg f T) (hx : p = (x, 0) ∧ q = (x, 1) ∨ p = (x, 1) ∧ q = (x, 0)) : ∃ f', isoV (P ++ (((X ++ W') ++ W) ++ X') :: (Mi ++ Po)) sg f' (ntSm T (f x)) := by
  have hF := h.1.1
  have hv := isoV_vn h
  have hLA : X ++ p :: X' ∈ A := by rw [hAe]; exact List.mem_append_right _ List.mem_cons_self
  have hMA : W ++ q :: W' ∈ A := by rw [hAe]; exact List.mem_append_right _ (List.mem_cons_of_mem _ (List.mem_append_right _ List.mem_cons_self))
  have nL := L_nd hF.1 hLA
  have nM := L_nd hF.1 hMA
  have hpL : p ∈ X ++ p :: X' := List.mem_append_right _ List.mem_cons_self
  have hqM : q ∈ W ++ q :: W' := List.mem_append_right _ List.mem_cons_self
  have hpq : p ≠ q := by
    rcases hx with ⟨rfl, rfl⟩ | ⟨rfl, rfl⟩
    · exact fun e => absurd (Prod.mk.inj e).2 (by decide)
    · exact fun e => absurd (Prod.mk.inj e).2 (by decide)
  have eU : X ++ p :: X' = (X ++ [p]) ++ X' := by simp
  have eU2 : X' ++ (X ++ [p]) = (X' ++ X) ++ [p] := by simp
  have eW : W ++ q :: W' = (W ++ [q]) ++ W' := by simp
  have eW2 : W' ++ (W ++ [q]) = (W' ++ W) ++ [q] := by simp
  have memU : ∀ r, r ∈ (X' ++ X) ++ [p] ↔ r ∈ X ++ p :: X' := fun r => by
    simp only [List.mem_append, List.mem_cons, List.mem_singleton]
    grind
  have memW : ∀ r, r ∈ (W' ++ W) ++ [q] ↔ r ∈ W ++ q :: W' := fun r => by
    simp only [List.mem_append, List.mem_cons, List.mem_singleton]
    grind
  have scU : ∀ r, r ∈ X ++ p :: X' → sc ((X' ++ X) ++ [p]) r = sc (X ++ p :: X') r := fun r hr => by
    have hn2 : ((X ++ [p]) ++ X').Nodup := by rw [← eU]; exact nL
    have := sc_rot (p := r) hn2 (by rw [← eU]; exact hr)
    rw [eU2, ← eU] at this
    exact this
  have scW : ∀ r, r ∈ W ++ q :: W' → sc ((W' ++ W) ++ [q]) r = sc (W ++ q :: W') r := fun r hr => by
    have hn2 : ((W ++ [q]) ++ W').Nodup := by rw [← eW]; exact nM
    have := sc_rot (p := r) hn2 (by rw [← eW]; exact hr)
    rw [eW2, ← eW] at this
    exact this
  have nA := hF.1
  rw [hAe] at nA
  have cnt : ∀ r, A.flatten.count r = P.flatten.count r + ((X' ++ X) ++ [p]).count r + Mi.flatten.count r + ((W' ++ W) ++ [q]).count r + Po.flatten.count r := fun r => by
    rw [hAe]
    simp only [List.flatten_append, List.flatten_cons, List.count_append, List.count_cons, List.count_nil]
    omega
  have one : ∀ r, A.flatten.count r ≤ 1 := fun r => List.nodup_iff_count.mp hF.1 r
  have nR : (((X' ++ X) ++ [p]) ++ ((W' ++ W) ++ [q])).Nodup := by
    refine List.nodup_iff_count.mpr (fun r => ?_)
    have h1 := cnt r
    have h2 := one r
    rw [List.count_append]
    omega
  have dis : ∀ r, r ∈ (X' ++ X) ++ [p] → r ∈ (W' ++ W) ++ [q] → False := fun r h1 h2 => (List.nodup_append.mp nR).2.2 r h1 r h2 rfl
  have otherL : ∀ L, L ∈ P ++ (Mi ++ Po) → L ∈ A := fun L hL => by
    rw [hAe]
    rcases List.mem_append.mp hL with h9 | h9
    · exact List.mem_append_left _ h9
    · rcases List.mem_append.mp h9 with h8 | h8
      · exact List.mem_append_right _ (List.mem_cons_of_mem _ (List.mem_append_left _ h8))
      · exact List.mem_append_right _ (List.mem_cons_of_mem _ (List.mem_append_right _ (List.mem_cons_of_mem _ h8)))
  have otherN : ∀ L, L ∈ P ++ (Mi ++ Po) → ∀ r, r ∈ L → r ≠ p ∧ r ≠ q := fun L hL r hr => by
    have h1 := cnt r
    have h2 := one r
    have h3 : 0 < (P ++ (Mi ++ Po)).flatten.count r := List.count_pos_iff.mpr (List.mem_flatten.mpr ⟨L, hL, hr⟩)
    rw [List.flatten_append, List.flatten_append, List.count_append, List.count_append] at h3
    refine ⟨fun e => ?_, fun e => ?_⟩
    · have h4 : 0 < ((X' ++ X) ++ [p]).count r := List.count_pos_iff.mpr (by rw [e]; exact List.mem_append_right _ (List.mem_singleton.mpr rfl))
      omega
    · have h4 : 0 < ((W' ++ W) ++ [q]).count r := List.count_pos_iff.mpr (by rw [e]; exact List.mem_append_right _ (List.mem_singleton.mpr rfl))
      omega
  let A1 : rn_L := P ++ (((X' ++ X) ++ [p]) ++ ((W' ++ W) ++ [q])) :: (Mi ++ Po)
  have perm1 : A1.flatten.Perm A.flatten := by
    refine List.perm_iff_count.mpr (fun a => ?_)
    rw [cnt]
    show (P ++ (((X' ++ X) ++ [p]) ++ ((W' ++ W) ++ [q])) :: (Mi ++ Po)).flatten.count a = _
    simp only [List.flatten_append, List.flatten_cons, List.count_append]
    omega
  have cirs1 : cirs A1 = cirs A := by
    rw [hAe]
    show cirs (P ++ (((X' ++ X) ++ [p]) ++ ((W' ++ W) ++ [q])) :: (Mi ++ Po)) = _
    rw [cirs_app2, cirs_app2, cirs_ne (by simp), cirs_ne (by simp), cirs_app2, cirs_app2, cirs_ne (by simp)]
  have hpA : p ∈ A.flatten := List.mem_flatten.mpr ⟨_, hLA, hpL⟩
  have hqA : q ∈ A.flatten := List.mem_flatten.mpr ⟨_, hMA, hqM⟩
  have key1 : isoV A1 sg f (T.1, T.2.1, np_exchange T.2.2.1 (gl f p) (gl f q), T.2.2.2) := by
    refine iso_exch h hpA hqA hpq perm1 cirs1 (fun L hL r hr => ?_)
    have hL : L ∈ P ++ (Mi ++ Po) ∨ L = ((X' ++ X) ++ [p]) ++ ((W' ++ W) ++ [q]) := by
      have hL : L ∈ P ++ (((X' ++ X) ++ [p]) ++ ((W' ++ W) ++ [q])) :: (Mi ++ Po) := hL
      rcases List.mem_append.mp hL with h9 | h9
      · exact Or.inl (List.mem_append_left _ h9)
      · rcases List.mem_cons.mp h9 with h8 | h8
        · exact Or.inr h8
        · exact Or.inl (List.mem_append_right _ h8)
    rcases hL with hL | rfl
    · obtain ⟨n1, n2⟩ := otherN L hL r hr
      exact ⟨fun e => absurd e n1, fun e => absurd e n2, fun _ _ => ⟨L, otherL L hL, hr, rfl⟩⟩
    · rcases List.mem_append.mp hr with hr1 | hr1
      · have hs := sc_spl1 nR hr1
        have hrU := (memU r).mp hr1
        refine ⟨fun e => ⟨_, hMA, hqM, ?_⟩, fun e => absurd (List.mem_append_right _ (by rw [e]; exact List.mem_singleton.mpr rfl)) (fun h9 => dis r hr1 h9), fun e1 _ => ⟨_, hLA, hrU, ?_⟩⟩
        · have hs2 := sc_spl2 (p := q) nR (List.mem_append_right _ (List.mem_singleton.mpr rfl))
          rw [if_pos rfl, scW q hqM] at hs2
          rw [e, hs2]
        · rw [if_neg e1, scU r hrU] at hs
          exact hs.symm
      · have hs := sc_spl2 nR hr1
        have hrW := (memW r).mp hr1
        refine ⟨fun e => absurd (List.mem_append_right _ (by rw [e]; exact List.mem_singleton.mpr rfl)) (fun h9 => dis r h9 hr1), fun e => ⟨_, hLA, hpL, ?_⟩, fun _ e2 => ⟨_, hMA, hrW, ?_⟩⟩
        · have hs2 := sc_spl1 (p := p) nR (List.mem_append_right _ (List.mem_singleton.mpr rfl))
          rw [if_pos rfl, scU p hpL] at hs2
          rw [e, hs2]
        · rw [if_neg e2, scW r hrW] at hs
          exact hs.symm
  have hp1 : p.1 = x ∧ q = (x, 1 - p.2) ∧ p.2 < 2 := by
    rcases hx with ⟨rfl, rfl⟩ | ⟨rfl, rfl⟩
    · exact ⟨rfl, rfl, by show 0 < 2; omega⟩
    · exact ⟨rfl, rfl, by show 1 < 2; omega⟩
  obtain ⟨f', k1⟩ := iso_sm0 key1 hv hp1.1 hp1.2.1 hp1.2.2 (perm1.mem_iff.mpr hpA)
  have hq1 : q.1 = x := by rw [hp1.2.1]
  have fo1 : ∀ L, L ∈ P ++ (Mi ++ Po) → L.filter (fun r => decide (r.1 ≠ x)) = L := fun L hL => fil_k (fun r hr => nd_of hF (otherL L hL) hx hr (otherN L hL r hr).1 (otherN L hL r hr).2)
  have inU : ∀ r, r ∈ X' ++ X → r.1 ≠ x := fun r hr => nd_of hF hLA hx ((memU r).mp (List.mem_append_left _ hr)) (fun e => by
    have nn := (List.nodup_append.mp nR).1
    exact (List.nodup_append.mp nn).2.2 r hr p (List.mem_singleton.mpr rfl) e) (fun e => dis r (List.mem_append_left _ hr) (by rw [e]; exact List.mem_append_right _ (List.mem_singleton.mpr rfl)))
  have inW : ∀ r, r ∈ W' ++ W → r.1 ≠ x := fun r hr => nd_of hF hMA hx ((memW r).mp (List.mem_append_left _ hr)) (fun e => dis r (by rw [e]; exact List.mem_append_right _ (List.mem_singleton.mpr rfl)) (List.mem_append_left _ hr)) (fun e => by
    have nn := (List.nodup_append.mp nR).2.1
    exact (List.nodup_append.mp nn).2.2 r hr q (List.mem_singleton.mpr rfl) e)
  have f1 : (((X' ++ X) ++ [p]) ++ ((W' ++ W) ++ [q])).filter (fun r => decide (r.1 ≠ x)) = (X' ++ X) ++ (W' ++ W) := by
    rw [List.filter_append, List.filter_append (l₁ := X' ++ X), List.filter_append (l₁ := W' ++ W), fil_k inU, fil_k inW, List.filter_cons_of_neg (by rw [hp1.1]; simp), List.filter_cons_of_neg (by rw [hq1]; simp), List.filter_nil, List.append_nil, List.append_nil]
  have fP : P.map (List.filter (fun r => decide (r.1 ≠ x))) = P := by
    conv => rhs; rw [← List.map_id P]
    exact List.map_congr_left (fun L hL => fo1 L (List.mem_append_left _ hL))
  have fPo : (Mi ++ Po).map (List.filter (fun r => decide (r.1 ≠ x))) = Mi ++ Po := by
    conv => rhs; rw [← List.map_id (Mi ++ Po)]
    exact List.map_congr_left (fun L hL => fo1 L (List.mem_append_right _ hL))
  have eA1 : A1.map (List.filter (fun r => decide (r.1 ≠ x))) = P ++ ((X' ++ X) ++ (W' ++ W)) :: (Mi ++ Po) := by
    show (P ++ (((X' ++ X) ++ [p]) ++ ((W' ++ W) ++ [q])) :: (Mi ++ Po)).map _ = _
    rw [List.map_append, List.map_cons, f1, fP, fPo]
  rw [eA1] at k1
  have eZ : (X' ++ X) ++ (W' ++ W) = X' ++ ((X ++ W') ++ W) := by simp
  rw [eZ] at k1
  refine ⟨f', isoV_lists k1 ?_ ?_ (fun L hL r hr => ?_)⟩
  · refine List.perm_iff_count.mpr (fun a => ?_)
    simp only [List.flatten_append, List.flatten_cons, List.count_append]
    omega
  · rw [cirs_app2, cirs_app2, cirs_cons (((X ++ W') ++ W) ++ X'), cirs_cons (X' ++ ((X ++ W') ++ W))]
    have : (((X ++ W') ++ W) ++ X' = []) ↔ (X' ++ ((X ++ W') ++ W) = []) := by
      rw [List.append_eq_nil_iff (p := (X ++ W') ++ W), List.append_eq_nil_iff (p := X')]
      exact And.comm
    simp only [this]
  · rcases List.mem_append.mp hL with h9 | h9
    · exact ⟨L, List.mem_append_left _ h9, hr, rfl⟩
    · rcases List.mem_cons.mp h9 with h7 | h7
      · have nZX : (X' ++ ((X ++ W') ++ W)).Nodup := by
          rw [← eZ]
          have := nR.filter (fun r => decide (r.1 ≠ x))
          rw [f1] at this
          exact this
        have hrZ : r ∈ X' ++ ((X ++ W') ++ W) := by
          rw [h7] at hr
          rcases List.mem_append.mp hr with h6 | h6
          · exact List.mem_append_right _ h6
          · exact List.mem_append_left _ h6
        refine ⟨_, List.mem_append_right _ List.mem_cons_self, hrZ, ?_⟩
        rw [h7]
        exact sc_rot nZX hrZ
      · exact ⟨L, List.mem_append_right _ (List.mem_cons_of_mem _ h7), hr, rfl⟩
theorem seg_app {a b d : Nat} (h1 : a ≤ b) (h2 : b ≤ d) : seg a d = seg a b ++ seg b d := by
  obtain ⟨k, rfl⟩ : ∃ k, d = b + k := ⟨d - b, by omega⟩
  induction k with
  | zero => rw [Nat.add_zero, seg_0, List.append_nil]
  | succ k ih =>
    rw [show b + (k + 1) = (b + k) + 1 by omega, seg_s (show a ≤ b + k by omega), seg_s (show b ≤ b + k by omega), ih (by omega), List.append_assoc]
theorem seg_cons {a d : Nat} (h : a < d) : seg a d = a :: seg (a + 1) d := by
  rw [seg_app (show a ≤ a + 1 by omega) h, seg_s (Nat.le_refl a), seg_0]
  rfl
theorem cps_app {a b d : Nat} (h1 : a ≤ b) (h2 : b ≤ d) : cps A a d = cps A a b ++ cps A b d := by
  obtain ⟨k, rfl⟩ : ∃ k, d = b + k := ⟨d - b, by omega⟩
  induction k with
  | zero => rw [Nat.add_zero, cps_0, List.append_nil]
  | succ k ih =>
    rw [show b + (k + 1) = (b + k) + 1 by omega, cps_s (show a ≤ b + k by omega), cps_s (show b ≤ b + k by omega), ih (by omega), List.append_assoc]
theorem cps_cons {a d : Nat} (h : a < d) : cps A a d = seg (rn_b A a) (rn_b A (a + 1)) :: cps A (a + 1) d := by
  rw [cps_app (show a ≤ a + 1 by omega) h, cps_s (Nat.le_refl a), cps_0]
  rfl
theorem cmp_seg {c : Nat} (hc : c < A.length) : (seg (rn_b A c) (rn_b A (c + 1))).map (vAt A) = A.getD c [] := by
  have hl := gD_len hc
  apply List.ext_getElem?
  intro i
  rw [List.getElem?_map]
  by_cases h : i < rn_b A (c + 1) - rn_b A c
  · have h2 := cmp_at hc (show rn_b A c ≤ rn_b A c + i by omega) (by omega)
    rw [show rn_b A c + i - rn_b A c = i by omega] at h2
    unfold seg
    rw [List.getElem?_map, List.getElem?_range h]
    exact h2.symm
  · rw [List.getElem?_eq_none (l := A.getD c []) (by omega), List.getElem?_eq_none (l := seg (rn_b A c) (rn_b A (c + 1))) (by rw [seg_len]; omega)]
    rfl
theorem cps_all : (cps A 0 A.length).map (List.map (vAt A)) = A := by
  apply List.ext_getElem?
  intro i
  by_cases h : i < A.length
  · unfold cps
    rw [List.getElem?_map, List.getElem?_map, List.getElem?_range (by omega)]
    show some ((seg (rn_b A (0 + i)) (rn_b A (0 + i + 1))).map (vAt A)) = _
    rw [Nat.zero_add, cmp_seg h, List.getElem?_eq_getElem h, List.getD_eq_getElem?_getD, List.getElem?_eq_getElem h]
    rfl
  · rw [List.getElem?_eq_none (by rw [List.length_map, cps_n]; omega), List.getElem?_eq_none (by omega)]
/-- the components that smoothing leaves -/
def smV (A : rn_L) (v w : Nat) : rn_L := (smC A (rn_c A v) v w (rn_c A w)).map (List.map (vAt A))
theorem iso_sm {v w : Nat} (h : isoV A sg f T) (hvw : v < w) (hw : w < A.flatten.length) (hx : vAt A v = (crs A v, 0) ∧ vAt A w = (crs A v, 1) ∨ vAt A v = (crs A v, 1) ∧ vAt A w = (crs A v, 0)) : ∃ f', isoV (smV A v w) sg f' (ntSm T (f (crs A v))) := by
  obtain ⟨c1, c2, c3⟩ := rn_c_in A v (by omega)
  obtain ⟨j1, j2, j3⟩ := rn_c_in A w hw
  unfold smV
  generalize rn_c A v = c at c1 c2 c3
  generalize rn_c A w = J at j1 j2 j3
  have eA : A = ((cps A 0 c).map (List.map (vAt A))) ++ ((seg (rn_b A c) (rn_b A (c + 1))).map (vAt A)) :: ((cps A (c + 1) A.length).map (List.map (vAt A))) := by
    conv => lhs; rw [← cps_all (A := A)]
    rw [cps_app (Nat.zero_le c) (show c ≤ A.length by omega), cps_cons c1, List.map_append, List.map_cons]
  have eL : seg (rn_b A c) (rn_b A (c + 1)) = seg (rn_b A c) v ++ v :: seg (v + 1) (rn_b A (c + 1)) := by
    rw [seg_app c2 (Nat.le_of_lt c3), seg_cons c3]
  unfold smC
  by_cases hone : w < rn_b A (c + 1)
  · rw [if_pos hone]
    have eL2 : seg (v + 1) (rn_b A (c + 1)) = seg (v + 1) w ++ w :: seg (w + 1) (rn_b A (c + 1)) := by
      rw [seg_app (show v + 1 ≤ w by omega) (Nat.le_of_lt hone), seg_cons hone]
    rw [eL, eL2, List.map_append, List.map_cons, List.map_append, List.map_cons] at eA
    obtain ⟨f', k⟩ := iso_sm1 eA h hx
    refine ⟨f', ?_⟩
    rw [List.map_append, List.map_append, List.map_append, List.map_cons, List.map_cons, List.map_nil, List.map_append]
    rw [show ∀ (a : rn_L) (b : List vT) (d e : rn_L), a ++ [b] ++ d ++ e = a ++ b :: d ++ e from fun a b d e => by simp]
    exact k
  · rw [if_neg hone]
    have hcJ : c < J := by
      rcases Nat.lt_or_ge c J with h9 | h9
      · exact h9
      · have := rn_b_mono2 (A := A) (show J + 1 ≤ c + 1 by omega)
        omega
    have eP : cps A (c + 1) A.length = cps A (c + 1) J ++ seg (rn_b A J) (rn_b A (J + 1)) :: cps A (J + 1) A.length := by
      rw [cps_app (show c + 1 ≤ J by omega) (show J ≤ A.length by omega), cps_cons j1]
    have eM : seg (rn_b A J) (rn_b A (J + 1)) = seg (rn_b A J) w ++ w :: seg (w + 1) (rn_b A (J + 1)) := by
      rw [seg_app j2 (Nat.le_of_lt j3), seg_cons j3]
    rw [eL, eP, eM, List.map_append, List.map_cons, List.map_append, List.map_cons, List.map_append, List.map_cons] at eA
    obtain ⟨f', k⟩ := iso_sm2 eA h hx
    refine ⟨f', ?_⟩
    rw [List.map_append, List.map_append, List.map_append, List.map_cons, List.map_nil, List.map_append, List.map_append, List.map_append]
    rw [show ∀ (a : rn_L) (b : List vT) (d e : rn_L), a ++ [b] ++ d ++ e = a ++ b :: (d ++ e) from fun a b d e => by simp]
    exact k
end ISN
end
section
/-! 99zzzzzzzzzk.xsm2 -/
/-! exact calls: smooth, of the reference and of the class -/
theorem iso_rge {A : rn_L} {sg : Nat → Bool} {f : Nat → Nat} {T : ow_NT} (hi : isoN A sg f T) (hv : vn T.1 T.2.2.1) : np_rg T.1 T.2.2.1 + T.2.1 = A.length := by
  have h0 := iso_rg hi
  have h2 := ne_cnt A
  have h3 : cirs A = T.2.1 := hi.2.2.2.2.2.2.2
  have h12 := hi.2.2.1
  have stay : ∀ i v, v < A.flatten.length → ∃ w, w < A.flatten.length ∧ rn_c A w = rn_c A v ∧ it T.2.2.1.1 i (lbv A f v) = lbv A f w := by
    intro i
    induction i with
    | zero => exact fun v hv9 => ⟨v, hv9, rfl, rfl⟩
    | succ i ih =>
      intro v hv9
      obtain ⟨w, w1, w2, w3⟩ := ih v hv9
      refine ⟨rn_nx A w, rn_nx_lt w1, (c_nx w1).trans w2, ?_⟩
      show T.2.2.1.1 (it T.2.2.1.1 i (lbv A f v)) = _
      rw [w3]
      exact hi.2.2.2.2.2.1 w w1
  have ex : ∀ k, k < A.length → neB A k = true → ∃ w, w < 2 * T.1 ∧ lst T.2.2.1.1 w 24 = true ∧ ∃ u, u < A.flatten.length ∧ rn_c A u = k ∧ lbv A f u = w := by
    intro k hk hn
    have hb := rnb_s hk
    have hl : 0 < (A[k]).length := by
      unfold neB at hn
      rw [List.getElem?_eq_getElem hk] at hn
      have hn : (!(A[k]).isEmpty) = true := hn
      cases e : A[k] with
      | nil =>
        rw [e] at hn
        exact absurd hn (by decide)
      | cons a X => exact Nat.succ_pos _
    have h9 := rn_b_le A (k + 1)
    have hlt : rn_b A k < A.flatten.length := by omega
    have hc := rn_c_of A k (rn_b A k) (Nat.le_refl _) (by omega)
    obtain ⟨w, w1, ⟨i, w2⟩, w3⟩ := sr_least (vD_vn.mpr hv) (fun j (hj : j < 2 * T.1) => by omega) (lbv_lt hi hlt)
    obtain ⟨u, u1, u2, u3⟩ := stay i _ hlt
    exact ⟨w, w1, w3, u, u1, u2.trans hc, by rw [← u3]; exact w2⟩
  have ch : ∀ k, ∃ w, k < A.length → neB A k = true → w < 2 * T.1 ∧ lst T.2.2.1.1 w 24 = true ∧ ∃ u, u < A.flatten.length ∧ rn_c A u = k ∧ lbv A f u = w := fun k => by
    by_cases e1 : k < A.length
    · by_cases e2 : neB A k = true
      · obtain ⟨w, hw⟩ := ex k e1 e2
        exact ⟨w, fun _ _ => hw⟩
      · exact ⟨0, fun _ h9 => absurd h9 e2⟩
    · exact ⟨0, fun h9 => absurd h9 e1⟩
  have h1 : cntB (neB A) A.length ≤ np_rg T.1 T.2.2.1 := by
    refine cntB_inj A.length (neB A) (fun k => lst T.2.2.1.1 k 24) (fun k => Classical.choose (ch k)) (fun k hk hn => ?_) (fun k j hk hj qk qj e => ?_)
    · obtain ⟨a1, a2, -⟩ := Classical.choose_spec (ch k) hk hn
      exact ⟨a1, a2⟩
    · obtain ⟨-, -, u, u1, u2, u3⟩ := Classical.choose_spec (ch k) hk qk
      obtain ⟨-, -, t, t1, t2, t3⟩ := Classical.choose_spec (ch j) hj qj
      have e : Classical.choose (ch k) = Classical.choose (ch j) := e
      have := lbv_inj hi u1 t1 (by rw [u3, t3, e])
      rw [← u2, ← t2, this]
  omega
/-- the two visits of crossing k, in their order -/
def sm2 (A : rn_L) (k v w : Nat) : Prop := v < w ∧ w < A.flatten.length ∧ crs A v = k ∧ (vAt A v = (k, 0) ∧ vAt A w = (k, 1) ∨ vAt A v = (k, 1) ∧ vAt A w = (k, 0))
theorem sm2_ex {A : rn_L} (hF : wkF A.flatten) {v : Nat} (hv : v < A.flatten.length) : ∃ a b, sm2 A (crs A v) a b := by
  obtain ⟨v0, v1, a1, b1, a2, b2, -, -, -⟩ := vis_two hF hv
  have c0 : crs A v0 = crs A v := by show (vAt A v0).1 = _; rw [a2]
  have c1 : crs A v1 = crs A v := by show (vAt A v1).1 = _; rw [b2]
  rcases Nat.lt_trichotomy v0 v1 with h | h | h
  · exact ⟨v0, v1, h, b1, c0, Or.inl ⟨a2, b2⟩⟩
  · rw [h, b2] at a2
    exact absurd (Prod.mk.inj a2).2 (by decide)
  · exact ⟨v1, v0, h, a1, c1, Or.inr ⟨b2, a2⟩⟩
theorem sm2_uni {A : rn_L} (hn : A.flatten.Nodup) {k v w v' w' : Nat} (h : sm2 A k v w) (h' : sm2 A k v' w') : v = v' ∧ w = w' := by
  obtain ⟨a1, a2, -, a3⟩ := h
  obtain ⟨b1, b2, -, b3⟩ := h'
  have inj : ∀ {s t : Nat}, s < A.flatten.length → t < A.flatten.length → vAt A s = vAt A t → s = t := fun hs ht e => nodup_at hn (vAt_of hs) (by rw [vAt_of ht, e])
  rcases a3 with ⟨p1, p2⟩ | ⟨p1, p2⟩ <;> rcases b3 with ⟨q1, q2⟩ | ⟨q1, q2⟩
  · exact ⟨inj (by omega) (by omega) (p1.trans q1.symm), inj a2 b2 (p2.trans q2.symm)⟩
  · have e1 := inj (s := v) (t := w') (by omega) b2 (p1.trans q2.symm)
    have e2 := inj (s := w) (t := v') a2 (by omega) (p2.trans q1.symm)
    omega
  · have e1 := inj (s := v) (t := w') (by omega) b2 (p1.trans q2.symm)
    have e2 := inj (s := w) (t := v') a2 (by omega) (p2.trans q1.symm)
    omega
  · exact ⟨inj (by omega) (by omega) (p1.trans q1.symm), inj a2 b2 (p2.trans q2.symm)⟩
theorem sm_perm {A : rn_L} {v w : Nat} (hvw : v < w) (hw : w < A.flatten.length) : A.flatten.Perm (vAt A v :: vAt A w :: (smV A v w).flatten) := by
  obtain ⟨c1, c2, c3⟩ := rn_c_in A v (by omega)
  obtain ⟨j1, j2, j3⟩ := rn_c_in A w hw
  unfold smV
  generalize rn_c A v = c at c1 c2 c3
  generalize rn_c A w = J at j1 j2 j3
  have eA : A = ((cps A 0 c).map (List.map (vAt A))) ++ ((seg (rn_b A c) (rn_b A (c + 1))).map (vAt A)) :: ((cps A (c + 1) A.length).map (List.map (vAt A))) := by
    conv => lhs; rw [← cps_all (A := A)]
    rw [cps_app (Nat.zero_le c) (show c ≤ A.length by omega), cps_cons c1, List.map_append, List.map_cons]
  have eL : seg (rn_b A c) (rn_b A (c + 1)) = seg (rn_b A c) v ++ v :: seg (v + 1) (rn_b A (c + 1)) := by
    rw [seg_app c2 (Nat.le_of_lt c3), seg_cons c3]
  have fin : ∀ (B D : rn_L), A = B → (∀ a, B.flatten.count a = (vAt A v :: vAt A w :: D.flatten).count a) → A.flatten.Perm (vAt A v :: vAt A w :: D.flatten) := fun B D e h => List.perm_iff_count.mpr (fun a => by
    have h9 := h a
    rw [← e] at h9
    exact h9)
  unfold smC
  by_cases hone : w < rn_b A (c + 1)
  · rw [if_pos hone]
    have eL2 : seg (v + 1) (rn_b A (c + 1)) = seg (v + 1) w ++ w :: seg (w + 1) (rn_b A (c + 1)) := by
      rw [seg_app (show v + 1 ≤ w by omega) (Nat.le_of_lt hone), seg_cons hone]
    rw [eL, eL2] at eA
    refine fin _ _ eA (fun a => ?_)
    simp only [List.map_append, List.map_cons, List.map_nil, List.flatten_append, List.flatten_cons, List.flatten_nil, List.count_append, List.count_cons, List.count_nil]
    omega
  · rw [if_neg hone]
    have hcJ : c < J := by
      rcases Nat.lt_or_ge c J with h9 | h9
      · exact h9
      · have := rn_b_mono2 (A := A) (show J + 1 ≤ c + 1 by omega)
        omega
    have eP : cps A (c + 1) A.length = cps A (c + 1) J ++ seg (rn_b A J) (rn_b A (J + 1)) :: cps A (J + 1) A.length := by
      rw [cps_app (show c + 1 ≤ J by omega) (show J ≤ A.length by omega), cps_cons j1]
    have eM : seg (rn_b A J) (rn_b A (J + 1)) = seg (rn_b A J) w ++ w :: seg (w + 1) (rn_b A (J + 1)) := by
      rw [seg_app j2 (Nat.le_of_lt j3), seg_cons j3]
    rw [eL, eP, eM] at eA
    refine fin _ _ eA (fun a => ?_)
    simp only [List.map_append, List.map_cons, List.map_nil, List.flatten_append, List.flatten_cons, List.flatten_nil, List.count_append, List.count_cons, List.count_nil]
    omega
theorem sm_wk {A : rn_L} {k v w : Nat} (hF : wkF A.flatten) (h : sm2 A k v w) : wkF (smV A v w).flatten ∧ (smV A v w).flatten.length + 2 = A.flatten.length ∧ ∀ p, p ∈ (smV A v w).flatten → p ∈ A.flatten := by
  obtain ⟨h1, h2, -, h3⟩ := h
  have pm := sm_perm h1 h2
  have nn := pm.nodup_iff.mp hF.1
  obtain ⟨n1, n2⟩ := List.nodup_cons.mp nn
  obtain ⟨n3, n4⟩ := List.nodup_cons.mp n2
  have up : ∀ p, p ∈ (smV A v w).flatten → p ∈ A.flatten := fun p hp => pm.mem_iff.mpr (List.mem_cons_of_mem _ (List.mem_cons_of_mem _ hp))
  refine ⟨⟨n4, fun p hp => ?_⟩, by rw [pm.length_eq]; rfl, up⟩
  obtain ⟨a1, a2, a3⟩ := hF.2 p (up p hp)
  refine ⟨a1, a2, ?_⟩
  have ne1 : p ≠ vAt A v := fun e => n1 (List.mem_cons_of_mem _ (by rw [← e]; exact hp))
  have ne2 : p ≠ vAt A w := fun e => n3 (by rw [← e]; exact hp)
  rcases List.mem_cons.mp (pm.mem_iff.mp a3) with e | h9
  · exfalso
    rcases h3 with ⟨p1, p2⟩ | ⟨p1, p2⟩
    · rw [p1] at e
      obtain ⟨e1, e2⟩ := Prod.mk.inj e
      exact ne2 (by rw [p2]; exact Prod.ext e1 (by show p.2 = 1; omega))
    · rw [p1] at e
      obtain ⟨e1, e2⟩ := Prod.mk.inj e
      exact ne2 (by rw [p2]; exact Prod.ext e1 (by show p.2 = 0; omega))
  · rcases List.mem_cons.mp h9 with e | h9
    · exfalso
      rcases h3 with ⟨p1, p2⟩ | ⟨p1, p2⟩
      · rw [p2] at e
        obtain ⟨e1, e2⟩ := Prod.mk.inj e
        exact ne1 (by rw [p1]; exact Prod.ext e1 (by show p.2 = 0; omega))
      · rw [p2] at e
        obtain ⟨e1, e2⟩ := Prod.mk.inj e
        exact ne1 (by rw [p1]; exact Prod.ext e1 (by show p.2 = 1; omega))
    · exact h9
section XSQ
variable {X : (Nat → Nat → Int32) → Prop} {z : ow_MS} {St : plT}
theorem xq_smooth {d x : Int32} (h : gI X z) (hR : relR z St) : Te (fun K => qe_X13_smooth K d x z) (fun r => rFl X z 1 r ∧ (∀ e, e < 40 → d = nI e → St e = none) ∨ ∃ e A sg, e < 40 ∧ d = nI e ∧ St e = some (A, sg) ∧ (rFl X z 1 r ∧ (∀ k, 2 * k < A.flatten.length → x ≠ nI k) ∨ ∃ k v w, 2 * k < A.flatten.length ∧ x = nI k ∧ sm2 A k v w ∧ (rFl X z 2 r ∧ 6 < (smV A v w).length ∨ (smV A v w).length ≤ 6 ∧ (rFl X z 3 r ∧ allF St ∨ ∃ e, lstF St e ∧ rKp X z e (smV A v w) sg r)))) := by
  let Q : Int32 × ow_MS → Prop := fun r => rFl X z 1 r ∧ (∀ e, e < 40 → d = nI e → St e = none) ∨ ∃ e A sg, e < 40 ∧ d = nI e ∧ St e = some (A, sg) ∧ (rFl X z 1 r ∧ (∀ k, 2 * k < A.flatten.length → x ≠ nI k) ∨ ∃ k v w, 2 * k < A.flatten.length ∧ x = nI k ∧ sm2 A k v w ∧ (rFl X z 2 r ∧ 6 < (smV A v w).length ∨ (smV A v w).length ≤ 6 ∧ (rFl X z 3 r ∧ allF St ∨ ∃ e, lstF St e ∧ rKp X z e (smV A v w) sg r)))
  have h1 := gI_1 (c := 0) h
  have hR1 := relR_1 (c := 0) hR
  refine e_X13_smooth ?_
  refine u_X13_smooth_0 ?_; unfold qm_X13_smooth_0
  refine w_wrF (w_hasX hR1 (fun h0 => w_ifT rfl (w_mono (w_failX h1 fr_1) (fun r hr => Or.inl ⟨hr, h0⟩))) (fun e A sg he hx hs hv hne => w_ifF (by decide) ?_))
  subst hx
  refine w_cs0 (to_open pn1 he hv) (fun z2 ⟨o1, f1⟩ => ?_)
  have h2 : gI X z2 := gI_net pn1 f1 (fun g hg => by omega) h1
  have hl := o1.len
  have hC := o1.2.2.2
  have hd := wkF_ok o1.wk
  have f02 : fr rPs z z2 := fr_tr fr_1 (fr_mono (fun g hg => Or.inr (by unfold rSc; omega)) f1)
  have hR2 : relR z2 St := relR_fr f1 (by omega) hR1
  have z21 : z2.1 1 = 0 := by rw [(f1 1 (by omega)).1]; exact po_usF_at
  have fin : ∀ {r}, (rFl X z 1 r ∧ (∀ k, 2 * k < A.flatten.length → x ≠ nI k) ∨ ∃ k v w, 2 * k < A.flatten.length ∧ x = nI k ∧ sm2 A k v w ∧ (rFl X z 2 r ∧ 6 < (smV A v w).length ∨ (smV A v w).length ≤ 6 ∧ (rFl X z 3 r ∧ allF St ∨ ∃ e, lstF St e ∧ rKp X z e (smV A v w) sg r))) → Q r := fun hr => Or.inr ⟨e, A, sg, he, rfl, hs, hr⟩
  have c1 : (∀ k, 2 * k < A.flatten.length → x ≠ nI k) → Tt (fun K k => q_X13_smooth K k 1 (nI e) x 0 z2) Q := by
    intro hno
    refine u_X13_smooth_1 ?_; unfold qm_X13_smooth_1
    exact w_mono (w_failX (k := 1) h2 f02) (fun r hr => fin (Or.inl ⟨hr, hno⟩))
  refine w_if (fun h9 => c1 (fun k hk ek => ?_)) (fun h0 => w_rdF o1.1.V (w_nzI (by decide) ?_))
  · rw [ek] at h9
    exact absurd h9 (nI_pos (by omega))
  rw [show nI A.flatten.length / 2 = nI (A.flatten.length / 2) from pk_div (d := 2) (by omega) (by omega) (by omega)]
  obtain ⟨c, hok, hc12⟩ := o1.2.2.1
  have hVc := okF_len hok
  refine w_if (fun h9 => ?_) (fun h9 => c1 (fun k hk ek => ?_))
  rotate_left
  · rw [ek] at h9
    exact h9 ((nI_ltI (by omega) (by omega)).mpr (by omega))
  obtain ⟨y, hy31, rfl⟩ := nI_of h0
  have hy : y < A.flatten.length / 2 := (nI_ltI hy31 (by omega)).mp h9
  obtain ⟨t0, ht0, ht0e⟩ := ok_has hok (x := y) (by omega)
  obtain ⟨t, w, hsm⟩ := sm2_ex o1.wk ht0
  rw [ht0e] at hsm
  have ht1 : t < A.flatten.length := by have := hsm.1; have := hsm.2.1; omega
  have ht2 : crs A t = y := hsm.2.2.1
  have hml := mtf_lt hd ht1
  have hmw : mtf A t = w := by
    obtain ⟨v0, v1, a1, b1, a2, b2, m0, m1, all⟩ := vis_two o1.wk ht1
    rw [ht2] at a2 b2
    have inj : ∀ {s t : Nat}, s < A.flatten.length → t < A.flatten.length → vAt A s = vAt A t → s = t := fun hs ht e => nodup_at o1.wk.1 (vAt_of hs) (by rw [vAt_of ht, e])
    rcases hsm.2.2.2 with ⟨p1, p2⟩ | ⟨p1, p2⟩
    · rw [inj ht1 a1 (p1.trans a2.symm), m0]
      exact inj b1 hsm.2.1 (b2.trans p2.symm)
    · rw [inj ht1 b1 (p1.trans b2.symm), m1]
      exact inj a1 hsm.2.1 (a2.trans p2.symm)
  have hfst : ∀ j, j < t → crs A j ≠ y := fun j hj e9 => by
    obtain ⟨v0, v1, a1, b1, a2, b2, m0, m1, all⟩ := vis_two o1.wk ht1
    have hj1 := all j (by omega) (e9.trans ht2.symm)
    have ht3 := all t ht1 rfl
    have hw3 := all w hsm.2.1 (by
      show (vAt A w).1 = _
      rw [ht2]
      rcases hsm.2.2.2 with ⟨-, p2⟩ | ⟨-, p2⟩
      · rw [p2]
      · rw [p2])
    have := hsm.1
    omega
  have find : ∀ (k v : Nat), v + k = t → Tt (fun K i => q_X13_smooth K i 2 (nI e) (nI y) (nI v) z2) Q := by
    intro k
    induction k with
    | zero =>
      intro v hv9
      have hvt : v = t := by omega
      subst hvt
      obtain ⟨g1, g2, g3⟩ := rn_c_in A v ht1
      refine u_X13_smooth_2 ?_; unfold qm_X13_smooth_2
      refine w_rdI (pl4 pn1) rfl (by omega) (lk_cu o1.1 ht1).1 (w_ifT (by rw [ht2]) (w_rdI (pl8 pn1) rfl (by omega) (lk_c o1.1 ht1) (w_rdI (pl7 pn1) rfl (by omega) (lk_m hd o1.1 ht1) (w_cs0 (xr_smoothIn pn1 pn3 (by omega) hl (by omega) o1.1.1 g1 g2 g3 (by rw [hmw]; exact hsm.1) hml) (fun z3 ⟨b3, s3, f3⟩ => ?_)))))
      rw [hmw] at b3
      have b3 : rn_At z3 3000 (smV A v w) [] := b3
      have h3 : gI X z3 := gI_net pn3 f3 (fun g hg => by omega) h2
      have f03 : fr rPs z z3 := fr_tr f02 (fr_mono (fun g hg => Or.inr (by unfold rSc; omega)) f3)
      have hR3 : relR z3 St := relR_fr f3 (by omega) hR2
      obtain ⟨k1, k2, k3⟩ := sm_wk o1.wk hsm
      have hsl : (smV A v w).length ≤ 7 := by
        unfold smV
        rw [List.length_map]
        unfold smC
        split
        · simp only [List.length_append, cps_n, List.length_cons, List.length_nil]
          omega
        · simp only [List.length_append, cps_n, List.length_cons, List.length_nil]
          obtain ⟨j1, j2, j3⟩ := rn_c_in A w hsm.2.1
          rename_i hone
          have hcJ : rn_c A v < rn_c A w := by
            rcases Nat.lt_or_ge (rn_c A v) (rn_c A w) with h9 | h9
            · exact h9
            · have := rn_b_mono2 (A := A) (show rn_c A w + 1 ≤ rn_c A v + 1 by omega)
              omega
          omega
      have fin2 : ∀ {r}, (rFl X z 2 r ∧ 6 < (smV A v w).length ∨ (smV A v w).length ≤ 6 ∧ (rFl X z 3 r ∧ allF St ∨ ∃ e, lstF St e ∧ rKp X z e (smV A v w) sg r)) → Q r := fun hr => fin (Or.inr ⟨y, v, w, by omega, rfl, hsm, hr⟩)
      refine w_rdF b3.2.1 (w_le (b := 6) (by omega) (by omega) (fun h8 => w_freeX hR3 (fun hall => w_ifT rfl (w_mono (w_failX (k := 3) h3 f03) (fun r hr => fin2 (Or.inr ⟨h8, Or.inl ⟨hr, hall⟩⟩)))) (fun f hfr => w_ifF (rn_neg1 (by have := hfr.1; omega)) (w_mono (w_keepX (z0 := z) (sg2 := sg) h3 hR3 hfr (by rw [(f3 1 (by omega)).1]; exact z21) f03 b3 (fun p hp => ?_) k1 (by omega) h8) (fun r hr => fin2 (Or.inr ⟨h8, Or.inr ⟨f, hfr, hr⟩⟩))))) (fun h8 => w_mono (w_failX (k := 2) h3 f03) (fun r hr => fin2 (Or.inl ⟨hr, by omega⟩))))
      show z3.2.1 3006 p.1 = _
      rw [s3 _ ((k1.2 p hp).1)]
      exact o1.2.1 p (k3 p hp)
    | succ k ih =>
      intro v hv9
      have hvl : v < A.flatten.length := by omega
      have hcv := hfst v (by omega)
      have hx12 := (o1.cx hvl).1
      refine u_X13_smooth_2 ?_; unfold qm_X13_smooth_2
      refine w_rdI (pl4 pn1) rfl (by omega) (lk_cu o1.1 hvl).1 (w_ifF (fun e9 => hcv ((nI_eq (by omega) (by omega)).mp e9)) ?_)
      rw [nI_1]
      exact ih (v + 1) (by omega)
  exact find t 0 (by omega)
end XSQ
section XSC
variable {vl : Nat → Nat} {y : ow_MS} {St : plT} {x x' : Int32}
theorem xc_smooth (hN : gN y) (hC : relC y St) (hS : okS St) : Te (fun K => ce_X11_smooth vl K 0 x x' y) (fun r => r.1 = 1 ∧ gN r.2.2 ∧ fr uP y r.2.2 ∧ relC r.2.2 St ∧ (∀ d, d < 40 → x = nI d → St d = none) ∨ ∃ d A sg, d < 40 ∧ x = nI d ∧ St d = some (A, sg) ∧ (r.1 = 1 ∧ gN r.2.2 ∧ fr uP y r.2.2 ∧ relC r.2.2 St ∧ (∀ k, 2 * k < A.flatten.length → x' ≠ nI k) ∨ ∃ k v w, 2 * k < A.flatten.length ∧ x' = nI k ∧ sm2 A k v w ∧ (r.1 = 4 ∧ gN r.2.2 ∧ fr uP y r.2.2 ∧ relC r.2.2 St ∧ 6 < (smV A v w).length ∨ (smV A v w).length ≤ 6 ∧ (r.1 = 3 ∧ gN r.2.2 ∧ fr uP y r.2.2 ∧ relC r.2.2 St ∧ allF St ∨ r.1 = 0 ∧ ∃ e, lstF St e ∧ cKp y e (smV A v w) sg r.2)))) := by
  refine e_X11_smooth ?_; unfold cm_X11_smooth_0
  refine w_tc0 (xc_need hN.1 hC hS) ?_ ?_
  · rintro y1 ⟨h1, rfl⟩
    rcases h1 with h1 | ⟨-, d, A, sg, c, hd, rfl, hSt, hs, hA, hne, hpl⟩
    · exact absurd (show (0 : Nat) = 1 from h1.1) (by decide)
    · refine w_cs0 (xc_ld hN hd hs hA hpl) ?_
      rintro y3 ⟨hN3, f3, T, hT, hT1, hV, hpm, hTp⟩
      have f3u : fr uP y1 y3 := fr_mono (fun g hg => by unfold cL at hg; unfold uP; omega) f3
      have hC3 : relC y3 St := relC_fr f3 (fun q hq h9 => by unfold cW at hq; unfold cL at h9; omega) hC
      have hv := hT.2.2.1
      have h12 := hv.2.1
      have hlen := hV.1.2.1
      refine w_tc0 (tc_needCrossing hT.1.1 hv.2.1) ?_ ?_
      · rintro y4 ⟨h4, rfl⟩
        rcases h4 with ⟨-, i, hi, rfl⟩ | h4
        · obtain ⟨t0, ht0, ht0e⟩ := ok_has hA.1 (x := i) (by omega)
          obtain ⟨v, w, hsm⟩ := sm2_ex hV.1.1 ht0
          rw [ht0e] at hsm
          obtain ⟨f', hV5⟩ := iso_sm hV hsm.1 hsm.2.1 (by rw [hsm.2.2.1]; exact hsm.2.2.2)
          rw [hsm.2.2.1] at hV5
          have hV5 : isoV (smV A v w) sg f' (ntSm T i) := hV5
          have hpm5 : pm1 (ntSm T i) := pm1_rm (T := (T.1, T.2.1, np_exchange T.2.2.1 (2 * i) (2 * i + 1), T.2.2.2)) hpm hi
          have hpl5 := pl_smooth hv.1 h12 hi hTp
          have hv5 : vn (ntSm T i).1 (ntSm T i).2.2.1 := isoV_vn hV5
          have hrg := iso_rge (isoS_iff.mp hV5.1) hv5
          refine w_cs0 (tc_smoothCrossing nH4 hT.1 hv.2.2.1 hi h12) ?_
          rintro y5 ⟨g1, g2⟩
          have g1 : cAt y5 4000 (ntSm T i) := g1
          have hbx : ow_b24 (np_exchange T.2.2.1 (2 * i) (2 * i + 1)) := b24_exchange hv.2.2.1 (by omega) (by omega)
          have hb5 : ow_b24 (ntSm T i).2.2.1 := np_rmS_b24 hbx (by omega)
          have e1 : (ntSm T i).1 = T.1 - 1 := rfl
          generalize ntSm T i = T5 at hV5 hpm5 hpl5 hv5 hrg g1 hb5 e1
          have hc5 : T5.1 ≤ 12 := by omega
          have hsl : (smV A v w).length ≤ 40 := by
            unfold smV
            rw [List.length_map]
            unfold smC
            have := hA.2.2.2.2
            have j1 := (rn_c_in A w hsm.2.1).1
            have j2 := (rn_c_in A v (by have := hsm.1; have := hsm.2.1; omega)).1
            split
            · simp only [List.length_append, cps_n, List.length_cons, List.length_nil]
              omega
            · simp only [List.length_append, cps_n, List.length_cons, List.length_nil]
              omega
          refine w_cs0 (tc_markRings nH4 g1 hb5 hc5) ?_
          rintro y6 ⟨m1, m2, m3⟩
          have hof := np_rings_of (N := T5.2.2.1.1) (c := T5.1) (fun a ha => (hv5 a ha).1) (y5.2.1 (4000 + 5))
          rw [hof.2, rings_cnt hv5 hc5] at m2
          have hy6 : cAt y6 4000 T5 := cAt_fr m3 (fun g hg h9 => by unfold cP at hg; unfold cR at h9; omega) g1
          have hN5 : gN y5 := gN_net nH4 g2 (fun g hg => by unfold cP at hg; omega) ⟨T5, g1, hb5⟩ hN3
          have hN6 : gN y6 := gN_net nH4 m3 (fun g hg => by unfold cR at hg; omega) ⟨T5, hy6, hb5⟩ hN5
          have f6u : fr uP y1 y6 := fr_tr f3u (fr_tr (fr_mono (fun g hg => by unfold cP at hg; unfold uP; omega) g2) (fr_mono (fun g hg => by unfold cR at hg; unfold uP; omega) m3))
          have hC6 : relC y6 St := relC_fr m3 (fun q hq h9 => by unfold cW at hq; unfold cR at h9; omega) (relC_fr g2 (fun q hq h9 => by unfold cW at hq; unfold cP at h9; omega) hC3)
          refine w_rdF m2 (w_rdF hy6.2.1 ?_)
          rw [nI_add, hrg]
          refine w_le (b := 6) (by omega) (by omega) (fun h6 => ?_) (fun h6 => w_some (Or.inr ⟨d, A, sg, hd, rfl, hSt, Or.inr ⟨i, v, w, by omega, rfl, hsm, Or.inl ⟨rfl, hN6, f6u, hC6, by omega⟩⟩⟩))
          refine w_tc1 (xc_free hN6.1 hC6 hS) ?_ ?_
          · rintro u y7 ⟨h7, rfl⟩
            rcases h7 with h7 | ⟨-, e, rfl, hl⟩
            · exact absurd (show (0 : Nat) = 3 from h7.1) (by decide)
            · have hnv : nv T5 := ⟨hv5, hc5, hb5, by omega⟩
              refine w_cs1 (tc_keep hN6 hl.1 hy6 hnv) ?_
              rintro r y8 ⟨q0, q1, q2, ⟨Cs, os, q3, q4⟩, q5, -⟩
              exact w_some (Or.inr ⟨d, A, sg, hd, rfl, hSt, Or.inr ⟨i, v, w, by omega, rfl, hsm, Or.inr ⟨h6, Or.inr ⟨rfl, e, hl, q0, q1, fr_tr f6u q2, ⟨T5, f', Cs, os, hnv, hpm5, hV5, hpl5, q3, q4⟩, fun d' C' h1 h2 h3 => q5 d' C' h1 h2 (slC_fr m3 (fun q hq h9 => by unfold cW at hq; unfold cR at h9; omega) (slC_fr g2 (fun q hq h9 => by unfold cW at hq; unfold cP at h9; omega) (slC_fr f3 (fun q hq h9 => by unfold cW at hq; unfold cL at h9; omega) h3)))⟩⟩⟩⟩)
          · rintro a u y7 ha ⟨h7, rfl⟩
            rcases h7 with h7 | h7
            · exact w_some (Or.inr ⟨d, A, sg, hd, rfl, hSt, Or.inr ⟨i, v, w, by omega, rfl, hsm, Or.inr ⟨h6, Or.inl ⟨h7.1, hN6, f6u, hC6, h7.2⟩⟩⟩⟩)
            · exact absurd h7.1 ha
        · exact absurd (show (0 : Nat) = 1 from h4.1) (by decide)
      · rintro a y4 ha ⟨h4, rfl⟩
        rcases h4 with h4 | h4
        · exact absurd h4.1 ha
        · exact w_some (Or.inr ⟨d, A, sg, hd, rfl, hSt, Or.inl ⟨h4.1, hN3, f3u, hC3, fun k hk => h4.2 k (by omega)⟩⟩)
  · rintro a y1 ha ⟨h1, rfl⟩
    rcases h1 with h1 | h1
    · exact w_some (Or.inl ⟨h1.1, hN, fr_rf, hC, h1.2⟩)
    · exact absurd h1.1 ha
end XSC
end
section
/-! 99zzzzzzzzzl.ijn -/
/-! a net joined to another: the lists -/
section IJN
variable {A : rn_L} {sg : Nat → Bool} {f : Nat → Nat} {T : ow_NT} {P Mi Po : rn_L} {X X' W W' : List vT} {p q : vT}
theorem iso_mrg (hAe : A = P ++ (X ++ p :: X') :: (Mi ++ (W ++ q :: W') :: Po)) (h : isoV A sg f T) : isoV (P ++ ((((X ++ [p]) ++ W') ++ (W ++ [q])) ++ X') :: (Mi ++ Po)) sg f (T.1, T.2.1, np_exchange T.2.2.1 (gl f p) (gl f q), T.2.2.2) := by
  have hF := h.1.1
  have hv := isoV_vn h
  have hLA : X ++ p :: X' ∈ A := by rw [hAe]; exact List.mem_append_right _ List.mem_cons_self
  have hMA : W ++ q :: W' ∈ A := by rw [hAe]; exact List.mem_append_right _ (List.mem_cons_of_mem _ (List.mem_append_right _ List.mem_cons_self))
  have nL := L_nd hF.1 hLA
  have nM := L_nd hF.1 hMA
  have hpL : p ∈ X ++ p :: X' := List.mem_append_right _ List.mem_cons_self
  have hqM : q ∈ W ++ q :: W' := List.mem_append_right _ List.mem_cons_self
  have eU : X ++ p :: X' = (X ++ [p]) ++ X' := by simp
  have eU2 : X' ++ (X ++ [p]) = (X' ++ X) ++ [p] := by simp
  have eW : W ++ q :: W' = (W ++ [q]) ++ W' := by simp
  have eW2 : W' ++ (W ++ [q]) = (W' ++ W) ++ [q] := by simp
  have memU : ∀ r, r ∈ (X' ++ X) ++ [p] ↔ r ∈ X ++ p :: X' := fun r => by
    simp only [List.mem_append, List.mem_cons, List.mem_singleton]
    grind
  have memW : ∀ r, r ∈ (W' ++ W) ++ [q] ↔ r ∈ W ++ q :: W' := fun r => by
    simp only [List.mem_append, List.mem_cons, List.mem_singleton]
    grind
  have scU : ∀ r, r ∈ X ++ p :: X' → sc ((X' ++ X) ++ [p]) r = sc (X ++ p :: X') r := fun r hr => by
    have hn2 : ((X ++ [p]) ++ X').Nodup := by rw [← eU]; exact nL
    have := sc_rot (p := r) hn2 (by rw [← eU]; exact hr)
    rw [eU2, ← eU] at this
    exact this
  have scW : ∀ r, r ∈ W ++ q :: W' → sc ((W' ++ W) ++ [q]) r = sc (W ++ q :: W') r := fun r hr => by
    have hn2 : ((W ++ [q]) ++ W').Nodup := by rw [← eW]; exact nM
    have := sc_rot (p := r) hn2 (by rw [← eW]; exact hr)
    rw [eW2, ← eW] at this
    exact this
  have nA := hF.1
  rw [hAe] at nA
  have cnt : ∀ r, A.flatten.count r = P.flatten.count r + ((X' ++ X) ++ [p]).count r + Mi.flatten.count r + ((W' ++ W) ++ [q]).count r + Po.flatten.count r := fun r => by
    rw [hAe]
    simp only [List.flatten_append, List.flatten_cons, List.count_append, List.count_cons, List.count_nil]
    omega
  have one : ∀ r, A.flatten.count r ≤ 1 := fun r => List.nodup_iff_count.mp hF.1 r
  have nR : (((X' ++ X) ++ [p]) ++ ((W' ++ W) ++ [q])).Nodup := by
    refine List.nodup_iff_count.mpr (fun r => ?_)
    have h1 := cnt r
    have h2 := one r
    rw [List.count_append]
    omega
  have dis : ∀ r, r ∈ (X' ++ X) ++ [p] → r ∈ (W' ++ W) ++ [q] → False := fun r h1 h2 => (List.nodup_append.mp nR).2.2 r h1 r h2 rfl
  have hpq : p ≠ q := fun e => dis p (List.mem_append_right _ (List.mem_singleton.mpr rfl)) (by rw [e]; exact List.mem_append_right _ (List.mem_singleton.mpr rfl))
  have otherL : ∀ L, L ∈ P ++ (Mi ++ Po) → L ∈ A := fun L hL => by
    rw [hAe]
    rcases List.mem_append.mp hL with h9 | h9
    · exact List.mem_append_left _ h9
    · rcases List.mem_append.mp h9 with h8 | h8
      · exact List.mem_append_right _ (List.mem_cons_of_mem _ (List.mem_append_left _ h8))
      · exact List.mem_append_right _ (List.mem_cons_of_mem _ (List.mem_append_right _ (List.mem_cons_of_mem _ h8)))
  have otherN : ∀ L, L ∈ P ++ (Mi ++ Po) → ∀ r, r ∈ L → r ≠ p ∧ r ≠ q := fun L hL r hr => by
    have h1 := cnt r
    have h2 := one r
    have h3 : 0 < (P ++ (Mi ++ Po)).flatten.count r := List.count_pos_iff.mpr (List.mem_flatten.mpr ⟨L, hL, hr⟩)
    rw [List.flatten_append, List.flatten_append, List.count_append, List.count_append] at h3
    refine ⟨fun e => ?_, fun e => ?_⟩
    · have h4 : 0 < ((X' ++ X) ++ [p]).count r := List.count_pos_iff.mpr (by rw [e]; exact List.mem_append_right _ (List.mem_singleton.mpr rfl))
      omega
    · have h4 : 0 < ((W' ++ W) ++ [q]).count r := List.count_pos_iff.mpr (by rw [e]; exact List.mem_append_right _ (List.mem_singleton.mpr rfl))
      omega
  let A1 : rn_L := P ++ (((X' ++ X) ++ [p]) ++ ((W' ++ W) ++ [q])) :: (Mi ++ Po)
  have perm1 : A1.flatten.Perm A.flatten := by
    refine List.perm_iff_count.mpr (fun a => ?_)
    rw [cnt]
    show (P ++ (((X' ++ X) ++ [p]) ++ ((W' ++ W) ++ [q])) :: (Mi ++ Po)).flatten.count a = _
    simp only [List.flatten_append, List.flatten_cons, List.count_append]
    omega
  have cirs1 : cirs A1 = cirs A := by
    rw [hAe]
    show cirs (P ++ (((X' ++ X) ++ [p]) ++ ((W' ++ W) ++ [q])) :: (Mi ++ Po)) = _
    rw [cirs_app2, cirs_app2, cirs_ne (by simp), cirs_ne (by simp), cirs_app2, cirs_app2, cirs_ne (by simp)]
  have hpA : p ∈ A.flatten := List.mem_flatten.mpr ⟨_, hLA, hpL⟩
  have hqA : q ∈ A.flatten := List.mem_flatten.mpr ⟨_, hMA, hqM⟩
  have key1 : isoV A1 sg f (T.1, T.2.1, np_exchange T.2.2.1 (gl f p) (gl f q), T.2.2.2) := by
    refine iso_exch h hpA hqA hpq perm1 cirs1 (fun L hL r hr => ?_)
    have hL : L ∈ P ++ (Mi ++ Po) ∨ L = ((X' ++ X) ++ [p]) ++ ((W' ++ W) ++ [q]) := by
      have hL : L ∈ P ++ (((X' ++ X) ++ [p]) ++ ((W' ++ W) ++ [q])) :: (Mi ++ Po) := hL
      rcases List.mem_append.mp hL with h9 | h9
      · exact Or.inl (List.mem_append_left _ h9)
      · rcases List.mem_cons.mp h9 with h8 | h8
        · exact Or.inr h8
        · exact Or.inl (List.mem_append_right _ h8)
    rcases hL with hL | rfl
    · obtain ⟨n1, n2⟩ := otherN L hL r hr
      exact ⟨fun e => absurd e n1, fun e => absurd e n2, fun _ _ => ⟨L, otherL L hL, hr, rfl⟩⟩
    · rcases List.mem_append.mp hr with hr1 | hr1
      · have hs := sc_spl1 nR hr1
        have hrU := (memU r).mp hr1
        refine ⟨fun e => ⟨_, hMA, hqM, ?_⟩, fun e => absurd (List.mem_append_right _ (by rw [e]; exact List.mem_singleton.mpr rfl)) (fun h9 => dis r hr1 h9), fun e1 _ => ⟨_, hLA, hrU, ?_⟩⟩
        · have hs2 := sc_spl2 (p := q) nR (List.mem_append_right _ (List.mem_singleton.mpr rfl))
          rw [if_pos rfl, scW q hqM] at hs2
          rw [e, hs2]
        · rw [if_neg e1, scU r hrU] at hs
          exact hs.symm
      · have hs := sc_spl2 nR hr1
        have hrW := (memW r).mp hr1
        refine ⟨fun e => absurd (List.mem_append_right _ (by rw [e]; exact List.mem_singleton.mpr rfl)) (fun h9 => dis r h9 hr1), fun e => ⟨_, hLA, hpL, ?_⟩, fun _ e2 => ⟨_, hMA, hrW, ?_⟩⟩
        · have hs2 := sc_spl1 (p := p) nR (List.mem_append_right _ (List.mem_singleton.mpr rfl))
          rw [if_pos rfl, scU p hpL] at hs2
          rw [e, hs2]
        · rw [if_neg e2, scW r hrW] at hs
          exact hs.symm
  have eM : ((X' ++ X) ++ [p]) ++ ((W' ++ W) ++ [q]) = X' ++ (((X ++ [p]) ++ W') ++ (W ++ [q])) := by simp
  have k1 : isoV (P ++ (X' ++ (((X ++ [p]) ++ W') ++ (W ++ [q]))) :: (Mi ++ Po)) sg f (T.1, T.2.1, np_exchange T.2.2.1 (gl f p) (gl f q), T.2.2.2) := by
    rw [← eM]
    exact key1
  refine isoV_lists k1 ?_ ?_ (fun L hL r hr => ?_)
  · refine List.perm_iff_count.mpr (fun a => ?_)
    simp only [List.flatten_append, List.flatten_cons, List.count_append]
    omega
  · rw [cirs_app2, cirs_app2, cirs_ne (by simp), cirs_ne (by simp)]
  · rcases List.mem_append.mp hL with h9 | h9
    · exact ⟨L, List.mem_append_left _ h9, hr, rfl⟩
    · rcases List.mem_cons.mp h9 with h7 | h7
      · have nZX : (X' ++ (((X ++ [p]) ++ W') ++ (W ++ [q]))).Nodup := by
          rw [← eM]
          exact nR
        have hrZ : r ∈ X' ++ (((X ++ [p]) ++ W') ++ (W ++ [q])) := by
          rw [h7] at hr
          rcases List.mem_append.mp hr with h6 | h6
          · exact List.mem_append_right _ h6
          · exact List.mem_append_left _ h6
        refine ⟨_, List.mem_append_right _ List.mem_cons_self, hrZ, ?_⟩
        rw [h7]
        exact sc_rot nZX hrZ
      · exact ⟨L, List.mem_append_right _ (List.mem_cons_of_mem _ h7), hr, rfl⟩
end IJN
/-- the component of the second visit put behind the first one -/
def joC (D : rn_L) (c v w J : Nat) : List (List Nat) := cps D 0 c ++ [((seg (rn_b D c) (v + 1) ++ seg (w + 1) (rn_b D (J + 1))) ++ seg (rn_b D J) (w + 1)) ++ seg (v + 1) (rn_b D (c + 1))] ++ cps D (c + 1) J ++ cps D (J + 1) D.length
theorem iso_joC {D : rn_L} {sg : Nat → Bool} {f : Nat → Nat} {T : ow_NT} {c v w J : Nat} (h : isoV D sg f T) (c2 : rn_b D c ≤ v) (c3 : v < rn_b D (c + 1)) (hcJ : c < J) (j1 : J < D.length) (j2 : rn_b D J ≤ w) (j3 : w < rn_b D (J + 1)) : isoV ((joC D c v w J).map (List.map (vAt D))) sg f (T.1, T.2.1, np_exchange T.2.2.1 (gl f (vAt D v)) (gl f (vAt D w)), T.2.2.2) := by
  have eA : D = ((cps D 0 c).map (List.map (vAt D))) ++ ((seg (rn_b D c) (rn_b D (c + 1))).map (vAt D)) :: ((cps D (c + 1) D.length).map (List.map (vAt D))) := by
    conv => lhs; rw [← cps_all (A := D)]
    rw [cps_app (Nat.zero_le c) (show c ≤ D.length by omega), cps_cons (show c < D.length by omega), List.map_append, List.map_cons]
  have eL : seg (rn_b D c) (rn_b D (c + 1)) = seg (rn_b D c) v ++ v :: seg (v + 1) (rn_b D (c + 1)) := by
    rw [seg_app c2 (Nat.le_of_lt c3), seg_cons c3]
  have eP : cps D (c + 1) D.length = cps D (c + 1) J ++ seg (rn_b D J) (rn_b D (J + 1)) :: cps D (J + 1) D.length := by
    rw [cps_app (show c + 1 ≤ J by omega) (show J ≤ D.length by omega), cps_cons j1]
  have eM : seg (rn_b D J) (rn_b D (J + 1)) = seg (rn_b D J) w ++ w :: seg (w + 1) (rn_b D (J + 1)) := by
    rw [seg_app j2 (Nat.le_of_lt j3), seg_cons j3]
  rw [eL, eP, eM, List.map_append, List.map_cons, List.map_append, List.map_cons, List.map_append, List.map_cons] at eA
  have k := iso_mrg eA h
  unfold joC
  rw [List.map_append, List.map_append, List.map_append, List.map_cons, List.map_nil, List.map_append, List.map_append, List.map_append, seg_s c2, seg_s j2, List.map_append, List.map_append]
  rw [show ∀ (a : rn_L) (b : List vT) (d e : rn_L), a ++ [b] ++ d ++ e = a ++ b :: (d ++ e) from fun a b d e => by simp]
  exact k
section JNB
variable {A B : rn_L} {s : Nat}
theorem A12_bl {m : Nat} (hm : m ≤ A.length) : rn_b (A12 A B s) m = rn_b A m := by
  unfold rn_b A12
  rw [List.take_append_of_le_length hm]
theorem A12_br (m : Nat) : rn_b (A12 A B s) (A.length + m) = A.flatten.length + rn_b B m := by
  unfold rn_b A12
  rw [List.take_length_add_append, List.flatten_append, List.length_append]
  congr 1
  unfold shN
  rw [← List.map_take]
  show (shN s (B.take m)).flatten.length = _
  rw [shN_fl, List.length_map]
theorem A12_n : (A12 A B s).length = A.length + B.length := by
  unfold A12 shN
  rw [List.length_append, List.length_map]
/-- the components of the joined net -/
def joV (A B : rn_L) (s v w : Nat) : rn_L := (joC (A12 A B s) (rn_c A v) v (A.flatten.length + w) (A.length + rn_c B w)).map (List.map (vAt (A12 A B s)))
theorem jo_perm {v w : Nat} (hv : v < A.flatten.length) (hw : w < B.flatten.length) : (joV A B s v w).flatten.Perm (A12 A B s).flatten ∧ (joV A B s v w).length + 1 = A.length + B.length := by
  obtain ⟨c1, c2, c3⟩ := rn_c_in A v hv
  obtain ⟨j1, j2, j3⟩ := rn_c_in B w hw
  unfold joV
  generalize rn_c A v = c at c1 c2 c3
  generalize rn_c B w = jw at j1 j2 j3
  have nD := A12_n (A := A) (B := B) (s := s)
  have b1 := A12_bl (A := A) (B := B) (s := s) (m := c) (by omega)
  have b2 := A12_bl (A := A) (B := B) (s := s) (m := c + 1) (by omega)
  have b3 := A12_br (A := A) (B := B) (s := s) jw
  have b4 := A12_br (A := A) (B := B) (s := s) (jw + 1)
  have b4 : rn_b (A12 A B s) (A.length + jw + 1) = A.flatten.length + rn_b B (jw + 1) := b4
  generalize A12 A B s = D at nD b1 b2 b3 b4
  constructor
  · have e : D.flatten = ((cps D 0 D.length).map (List.map (vAt D))).flatten := by rw [cps_all]
    rw [e, cps_app (A := D) (Nat.zero_le c) (show c ≤ D.length by omega), cps_cons (show c < D.length by omega), cps_app (A := D) (a := c + 1) (b := A.length + jw) (d := D.length) (by omega) (by omega), cps_cons (show A.length + jw < D.length by omega)]
    rw [seg_app (a := rn_b D c) (b := v + 1) (d := rn_b D (c + 1)) (by omega) (by omega), seg_app (a := rn_b D (A.length + jw)) (b := A.flatten.length + w + 1) (d := rn_b D (A.length + jw + 1)) (by omega) (by omega)]
    unfold joC
    refine List.perm_iff_count.mpr (fun a => ?_)
    simp only [List.map_append, List.map_cons, List.map_nil, List.flatten_append, List.flatten_cons, List.flatten_nil, List.count_append, List.count_nil]
    omega
  · unfold joC
    rw [List.length_map]
    simp only [List.length_append, cps_n, List.length_cons, List.length_nil]
    omega
end JNB
theorem pl_join {T R : ow_NT} (hT : nv T) (hR : nv R) (h12 : T.1 + R.1 ≤ 12) (hp : nt_plane T = true) (hq : nt_plane R = true) {v w : Nat} (hv : v < 2 * T.1) (hw : w < 2 * R.1) : nt_plane (ntS (ntA T R) (np_exchange (ntA T R).2.2.1 v (2 * T.1 + w))) = true := by
  obtain ⟨a1, -, -, -, -⟩ := ntA_ok hT hR h12
  have hpl := (plane_iff a1 h12).mp (pl_app hT hR h12 hp hq)
  have l1 : v < 2 * (ntA T R).1 := by show v < 2 * (T.1 + R.1); omega
  have l2 : 2 * T.1 + w < 2 * (ntA T R).1 := by show 2 * T.1 + w < 2 * (T.1 + R.1); omega
  refine (plane_iff (T := ntS (ntA T R) (np_exchange (ntA T R).2.2.1 v (2 * T.1 + w))) (vn_exchange a1 l1 l2) h12).mpr ?_
  refine pn_exch a1 stG_fl hpl l1 l2 (by omega) (Or.inl (fun hr => ?_))
  have := hr (fun k => k < 2 * T.1) hv (fun j _ hj => by
    show np_app T.2.2.1.1 R.2.2.1.1 (2 * T.1) (2 * R.1) j < 2 * T.1
    rw [ntA_lo _ _ hj]
    exact (hT.1 j hj).1) (fun j _ hj => by
    unfold mt
    split <;> omega)
  have this : 2 * T.1 + w < 2 * T.1 := this
  omega
end
section
/-! 99zzzzzzzzzm.xjo -/
/-! exact calls: join, of the reference -/
theorem ring_seg {B : rn_L} {w n : Nat} (hw : w < B.flatten.length) : (List.range (rlen B (rn_c B w))).map (fun s => n + rv B w (s + 1)) = seg (n + w + 1) (n + rn_b B (rn_c B w + 1)) ++ seg (n + rn_b B (rn_c B w)) (n + w + 1) := by
  obtain ⟨j1, j2, j3⟩ := rn_c_in B w hw
  have l1 := seg_len (n + w + 1) (n + rn_b B (rn_c B w + 1))
  have l2 := seg_len (n + rn_b B (rn_c B w)) (n + w + 1)
  have er : rlen B (rn_c B w) = rn_b B (rn_c B w + 1) - rn_b B (rn_c B w) := rfl
  apply List.ext_getElem?
  intro i
  rw [List.getElem?_map]
  by_cases h : i < rlen B (rn_c B w)
  · rw [List.getElem?_range h]
    show some (n + rv B w (i + 1)) = _
    unfold rv
    by_cases h2 : w + (i + 1) < rn_b B (rn_c B w + 1)
    · rw [if_pos h2, List.getElem?_append_left (by omega)]
      unfold seg
      rw [List.getElem?_map, List.getElem?_range (by omega)]
      show _ = some (n + w + 1 + i)
      congr 1
      omega
    · rw [if_neg h2, List.getElem?_append_right (by omega), l1]
      unfold seg
      rw [List.getElem?_map, List.getElem?_range (by omega)]
      show _ = some (n + rn_b B (rn_c B w) + (i - (n + rn_b B (rn_c B w + 1) - (n + w + 1))))
      congr 1
      omega
  · rw [List.getElem?_eq_none (by rw [List.length_range]; omega), List.getElem?_eq_none (by rw [List.length_append]; omega)]
    rfl
/-- both diagrams and both visits are there -/
def joG (St : plT) (d v0 e w0 : Int32) (A : rn_L) (sg : Nat → Bool) (B : rn_L) (sg' : Nat → Bool) (v w : Nat) : Prop := (∃ d', d' < 40 ∧ d = nI d' ∧ St d' = some (A, sg)) ∧ (∃ e', e' < 40 ∧ e = nI e' ∧ St e' = some (B, sg')) ∧ v < A.flatten.length ∧ v0 = nI v ∧ w < B.flatten.length ∧ w0 = nI w
def joN (St : plT) (d v0 e w0 : Int32) : Prop := ∀ A sg B sg' v w, ¬ joG St d v0 e w0 A sg B sg' v w
def joS (A : rn_L) (sg sg' : Nat → Bool) (k : Nat) : Bool := if k < A.flatten.length / 2 then sg k else sg' (k - A.flatten.length / 2)
theorem pl_uni {St : plT} {d : Int32} {d1 d2 : Nat} {A1 A2 : rn_L} {s1 s2 : Nat → Bool} (h1 : d1 < 40) (h2 : d2 < 40) (e1 : d = nI d1) (e2 : d = nI d2) (q1 : St d1 = some (A1, s1)) (q2 : St d2 = some (A2, s2)) : A1 = A2 ∧ s1 = s2 := by
  have e : d1 = d2 := nI_inj9 (by omega) (by omega) (e1.symm.trans e2)
  rw [e, q2] at q1
  have := Option.some.inj q1
  exact ⟨(Prod.mk.inj this).1.symm, (Prod.mk.inj this).2.symm⟩
section XJ
variable {X : (Nat → Nat → Int32) → Prop} {z : ow_MS} {St : plT}
theorem xq_join {d v0 e w0 : Int32} (h : gI X z) (hR : relR z St) : Te (fun K => qe_X13_join K d v0 e w0 z) (fun r => rFl X z 1 r ∧ joN St d v0 e w0 ∨ ∃ A sg B sg' v w, joG St d v0 e w0 A sg B sg' v w ∧ (rFl X z 2 r ∧ (24 < A.flatten.length + B.flatten.length ∨ 6 < A.length + B.length - 1) ∨ A.flatten.length + B.flatten.length ≤ 24 ∧ A.length + B.length - 1 ≤ 6 ∧ (rFl X z 3 r ∧ allF St ∨ ∃ f, lstF St f ∧ rKp X z f (joV A B (A.flatten.length / 2) v w) (joS A sg sg') r))) := by
  let Q : Int32 × ow_MS → Prop := fun r => rFl X z 1 r ∧ joN St d v0 e w0 ∨ ∃ A sg B sg' v w, joG St d v0 e w0 A sg B sg' v w ∧ (rFl X z 2 r ∧ (24 < A.flatten.length + B.flatten.length ∨ 6 < A.length + B.length - 1) ∨ A.flatten.length + B.flatten.length ≤ 24 ∧ A.length + B.length - 1 ≤ 6 ∧ (rFl X z 3 r ∧ allF St ∨ ∃ f, lstF St f ∧ rKp X z f (joV A B (A.flatten.length / 2) v w) (joS A sg sg') r))
  have h1 := gI_1 (c := 0) h
  have hR1 := relR_1 (c := 0) hR
  have c1 : joN St d v0 e w0 → Tt (fun K k => q_X13_join K k 1 d v0 e w0 0 0 0 0 0 0 (usF z 1 0)) Q := by
    intro hno
    refine u_X13_join_1 ?_; unfold qm_X13_join_1
    exact w_mono (w_failX (k := 1) h1 fr_1) (fun r hr => Or.inl ⟨hr, hno⟩)
  refine e_X13_join ?_
  refine u_X13_join_0 ?_; unfold qm_X13_join_0
  refine w_wrF (w_hasX hR1 (fun h0 => w_ifT rfl (c1 (fun A sg B sg' v w ⟨⟨d', a1, a2, a3⟩, _⟩ => by rw [h0 d' a1 a2] at a3; cases a3))) (fun d9 A sg hd9 hx hs hv hne => w_ifF (by decide) (w_hasX hR1 (fun h0 => w_ifT rfl (c1 (fun A sg B sg' v w ⟨_, ⟨d', a1, a2, a3⟩, _⟩ => by rw [h0 d' a1 a2] at a3; cases a3))) (fun e9 B sg2 he9 hy hs2 hw hne2 => w_ifF (by decide) ?_))))
  have op1 := to_open pn1 hd9 hv
  rw [← hx] at op1
  refine w_cs0 op1 (fun z2 ⟨o1, f1⟩ => ?_)
  have h2 : gI X z2 := gI_net pn1 f1 (fun g hg => by omega) h1
  have hw2 : vRow z2 12 (32 * e9) B sg2 := ⟨rc_fr f1 (by omega) hw.1, hw.2⟩
  have op2 := to_open pn2 he9 hw2
  rw [← hy] at op2
  refine w_cs0 op2 (fun z3 ⟨o2, f2⟩ => ?_)
  have h3 : gI X z3 := gI_net pn2 f2 (fun g hg => by omega) h2
  have o1' := oNet_fr f2 (fun g hg => by omega) o1
  have l1 := o1.len
  have l2 := o2.len
  have k1 := o1.2.2.2
  have k2 := o2.2.2.2
  obtain ⟨a, ha, ha12⟩ := o1.2.2.1
  obtain ⟨b, hb, hb12⟩ := o2.2.2.1
  have hVa := okF_len ha
  have hVb := okF_len hb
  have f03 : fr rPs z z3 := fr_tr fr_1 (fr_tr (fr_mono (fun g hg => Or.inr (by unfold rSc; omega)) f1) (fr_mono (fun g hg => Or.inr (by unfold rSc; omega)) f2))
  have hR3 : relR z3 St := relR_fr f2 (by omega) (relR_fr f1 (by omega) hR1)
  have z31 : z3.1 1 = 0 := by
    rw [(f2 1 (by omega)).1, (f1 1 (by omega)).1]
    exact po_usF_at
  have c2 : joN St d v0 e w0 → Tt (fun K k => q_X13_join K k 2 d v0 e w0 0 0 0 0 0 0 z3) Q := by
    intro hno
    refine u_X13_join_2 ?_; unfold qm_X13_join_2
    exact w_mono (w_failX (k := 1) h3 f03) (fun r hr => Or.inl ⟨hr, hno⟩)
  have noV : (∀ v, v < A.flatten.length → v0 ≠ nI v) → joN St d v0 e w0 := fun hno A1 sg1 B1 sg1' v w hG => by
    obtain ⟨⟨d', a1, a2, a3⟩, -, b1, b2, -⟩ := hG
    have e1 := (pl_uni a1 hd9 a2 hx a3 hs).1
    rw [e1] at b1
    exact hno v b1 b2
  have noW : (∀ w, w < B.flatten.length → w0 ≠ nI w) → joN St d v0 e w0 := fun hno A1 sg1 B1 sg1' v w hG => by
    obtain ⟨-, ⟨d', a1, a2, a3⟩, -, -, b1, b2⟩ := hG
    have e1 := (pl_uni a1 he9 a2 hy a3 hs2).1
    rw [e1] at b1
    exact hno w b1 b2
  refine w_if (fun hv0 => c2 (noV (fun v hv9 ev => ?_))) (fun hv0 => w_rdF o1'.1.V (w_if (fun hv1 => c2 (noV (fun v hv9 ev => ?_))) (fun hv1 => w_if (fun hw0 => c2 (noW (fun v hv9 ev => ?_))) (fun hw0 => w_rdF o2.1.V (w_if (fun hw1 => w_rdF o1'.1.V (w_rdF o2.1.V ?_)) (fun hw1 => c2 (noW (fun v hv9 ev => ?_))))))))
  · rw [ev] at hv0
    exact absurd hv0 (nI_pos (by omega))
  · rw [ev] at hv1
    have h9 := (nI_ltI (show v < 2147483648 by omega) (show A.flatten.length < 2147483648 by omega)).mpr hv9
    exact absurd h9 (Int32.not_lt.mpr hv1)
  · rw [ev] at hw0
    exact absurd hw0 (nI_pos (by omega))
  rotate_left
  · rw [ev] at hw1
    exact hw1 ((nI_ltI (by omega) (by omega)).mpr hv9)
  obtain ⟨v, hv31, rfl⟩ := nI_of hv0
  obtain ⟨w, hw31, rfl⟩ := nI_of hw0
  have hvl : v < A.flatten.length := by
    rcases Nat.lt_or_ge v A.flatten.length with h9 | h9
    · exact h9
    · exact absurd (nI_le h9 hv31) hv1
  have hwl : w < B.flatten.length := (nI_ltI hw31 (by omega)).mp hw1
  have hG : joG St d (nI v) e (nI w) A sg B sg2 v w := ⟨⟨d9, hd9, hx, hs⟩, ⟨e9, he9, hy, hs2⟩, hvl, rfl, hwl, rfl⟩
  have fin : ∀ {r}, (rFl X z 2 r ∧ (24 < A.flatten.length + B.flatten.length ∨ 6 < A.length + B.length - 1) ∨ A.flatten.length + B.flatten.length ≤ 24 ∧ A.length + B.length - 1 ≤ 6 ∧ (rFl X z 3 r ∧ allF St ∨ ∃ f, lstF St f ∧ rKp X z f (joV A B (A.flatten.length / 2) v w) (joS A sg sg2) r)) → Q r := fun hr => Or.inr ⟨A, sg, B, sg2, v, w, hG, hr⟩
  have c3 : (24 < A.flatten.length + B.flatten.length ∨ 6 < A.length + B.length - 1) → Tt (fun K k => q_X13_join K k 3 d (nI v) e (nI w) 0 0 0 0 0 0 z3) Q := by
    intro hno
    refine u_X13_join_3 ?_; unfold qm_X13_join_3
    exact w_mono (w_failX (k := 2) h3 f03) (fun r hr => fin (Or.inl ⟨hr, hno⟩))
  rw [nI_add]
  obtain ⟨g1, g2, g3⟩ := rn_c_in A v hvl
  obtain ⟨p1, p2, p3⟩ := rn_c_in B w hwl
  have hne1 : 1 ≤ A.length + B.length := by omega
  refine w_lt (a := 24) (by omega) (by omega) (fun h9 => c3 (Or.inl h9)) (fun h24 => w_rdF (lk_C o1'.1) (w_rdF (lk_C o2.1) ?_))
  rw [nI_add, show nI (A.length + B.length) - 1 = nI (A.length + B.length - 1) from pk_sub (b := 1) hne1]
  refine w_le (b := 6) (by omega) (by omega) (fun h6 => w_freeX hR3 (fun hall => w_ifT rfl (w_mono (w_failX (k := 3) h3 f03) (fun r hr => fin (Or.inr ⟨by omega, h6, Or.inl ⟨hr, hall⟩⟩)))) (fun f hfr => w_ifF (rn_neg1 (by have := hfr.1; omega)) (w_rdF o1'.1.V (w_nzI (by decide) (w_cs0 (tn_clear pn3) (fun z4 ⟨b4, f4⟩ => ?_)))))) (fun h9 => c3 (Or.inr h9))
  have ea : A.flatten.length / 2 = a := by omega
  rw [show nI A.flatten.length / 2 = nI a from by rw [show nI A.flatten.length / 2 = nI (A.flatten.length / 2) from pk_div (d := 2) (by omega) (by omega) (by omega), ea]]
  rw [ea] at fin
  have hlen := A12_len (A := A) (B := B) (s := a)
  have evA : ∀ i, i < A.flatten.length → crs (A12 A B a) i = crs A i ∧ uns (A12 A B a) i = uns A i := fun i hi => by
    unfold crs uns
    rw [A12_l hi]
    exact ⟨rfl, rfl⟩
  have evB : ∀ i, i < B.flatten.length → crs (A12 A B a) (A.flatten.length + i) = crs B i + a ∧ uns (A12 A B a) (A.flatten.length + i) = uns B i := fun i hi => by
    unfold crs uns
    rw [A12_r hi]
    exact ⟨rfl, rfl⟩
  have nD := A12_n (A := A) (B := B) (s := a)
  have bA : ∀ m, m ≤ A.length → rn_b (A12 A B a) m = rn_b A m := fun m hm => A12_bl hm
  have bB : ∀ m, rn_b (A12 A B a) (A.length + m) = A.flatten.length + rn_b B m := fun m => A12_br m
  have bJ1 : rn_b (A12 A B a) (A.length + rn_c B w + 1) = A.flatten.length + rn_b B (rn_c B w + 1) := A12_br (rn_c B w + 1)
  have ok12 := A12_ok ha hb
  have wk12 := okF_wk (by omega) ok12
  obtain ⟨pm, pml⟩ := jo_perm (s := a) hvl hwl
  have eV : joV A B a v w = (joC (A12 A B a) (rn_c A v) v (A.flatten.length + w) (A.length + rn_c B w)).map (List.map (vAt (A12 A B a))) := rfl
  have dsg : ∀ p, p ∈ (A12 A B a).flatten → (p ∈ A.flatten ∨ ∃ q, q ∈ B.flatten ∧ p = (q.1 + a, q.2)) := fun p hp => by
    unfold A12 at hp
    rw [List.flatten_append] at hp
    rcases List.mem_append.mp hp with h9 | h9
    · exact Or.inl h9
    · rw [shN_fl] at h9
      obtain ⟨q, q1, q2⟩ := List.mem_map.mp h9
      exact Or.inr ⟨q, q1, q2.symm⟩
  generalize A12 A B a = D at hlen evA evB nD bA bB bJ1 ok12 wk12 pm eV dsg
  obtain ⟨c, hc⟩ : ∃ c, c = rn_c A v := ⟨_, rfl⟩
  obtain ⟨J, hJ⟩ : ∃ J, J = A.length + rn_c B w := ⟨_, rfl⟩
  have bJ := bB (rn_c B w)
  rw [← hJ] at bJ bJ1 eV
  rw [← hc] at g1 g2 g3 eV
  have m0 := rn_b_mono A c
  have hb1 := rn_b_le A (c + 1)
  have hb2 := rn_b_le B (rn_c B w + 1)
  have bc := bA c (by omega)
  have bc1 := bA (c + 1) (by omega)
  have bn := bA A.length (Nat.le_refl _)
  rw [rn_b_len] at bn
  let M : List Nat := ((seg (rn_b D c) (v + 1) ++ seg (A.flatten.length + w + 1) (rn_b D (J + 1))) ++ seg (rn_b D J) (A.flatten.length + w + 1)) ++ seg (v + 1) (rn_b D (c + 1))
  have hM : M.length = (rn_b A (c + 1) - rn_b A c) + (rn_b B (rn_c B w + 1) - rn_b B (rn_c B w)) := by
    show (((seg (rn_b D c) (v + 1) ++ seg (A.flatten.length + w + 1) (rn_b D (J + 1))) ++ seg (rn_b D J) (A.flatten.length + w + 1)) ++ seg (v + 1) (rn_b D (c + 1))).length = _
    rw [List.length_append, List.length_append, List.length_append, seg_len, seg_len, seg_len, seg_len]
    omega
  let I : ow_MS → Prop := fun y => fr (fun g => 3001 ≤ g ∧ g ≤ 3006) z3 y
  have oA : ∀ {y : ow_MS}, I y → oNet y 1000 A sg := fun hf => oNet_fr hf (fun g hg => by omega) o1'
  have oB : ∀ {y : ow_MS}, I y → oNet y 2000 B sg2 := fun hf => oNet_fr hf (fun g hg => by omega) o2
  have addI : ∀ {y y2 : ow_MS}, I y → fr (fun g => g = 3000 + 1 ∨ g = 3000 + 4 ∨ g = 3000 + 5) y y2 → I y2 := fun hI hf => fr_tr hI (fr_mono (fun g hg => by omega) hf)
  have endI : ∀ {y y2 : ow_MS}, I y → fr (fun g => g = 3000 + 2 ∨ g = 3000 + 3) y y2 → I y2 := fun hI hf => fr_tr hI (fr_mono (fun g hg => by omega) hf)
  -- the signs, and the end
  have l11 : ∀ (k x : Nat) (y : ow_MS), x + k = 20 → I y → bmX y 3000 D (joC D c v (A.flatten.length + w) J) [] → (∀ x', x' < x → y.2.1 3006 x' = if x' < a then z3.2.1 1006 x' else z3.2.1 2006 (x' - a)) → Tt (fun K i => q_X13_join K i 11 d (nI v) e (nI w) (nI a) (nI x) 0 0 0 0 y) Q := by
    intro k
    induction k with
    | zero =>
      intro x y hx9 hI hb9 hs9
      have hb9 : rn_At y 3000 (joV A B a v w) [] := by rw [eV]; exact hb9
      refine u_X13_join_11 ?_; unfold qm_X13_join_11
      refine w_leT (a := 20) (by omega) (by omega) (w_mono (w_keepX (z0 := z) (sg2 := joS A sg sg2) (gI_net pn3 hI (fun g hg => by omega) h3) (relR_fr hI (by omega) hR3) hfr (by rw [(hI 1 (by omega)).1]; exact z31) (fr_tr f03 (fr_mono (fun g hg => Or.inr (by unfold rSc; omega)) hI)) hb9 (fun p hp => ?_) (wkF_perm pm wk12) (by rw [pm.length_eq, hlen]; omega) (by omega)) (fun r hr => fin (Or.inr ⟨by omega, h6, Or.inr ⟨f, hfr, hr⟩⟩)))
      show y.2.1 3006 p.1 = if joS A sg sg2 p.1 = true then -1 else 1
      unfold joS
      rw [ea]
      rcases dsg p (pm.mem_iff.mp hp) with hpa | ⟨q, hq, rfl⟩
      · have hlt := ((ha.2 p).mp hpa).1
        rw [if_pos hlt, hs9 _ (by omega), if_pos hlt]
        exact o1'.2.1 p hpa
      · have hlt := ((hb.2 q).mp hq).1
        show y.2.1 3006 (q.1 + a) = if (if q.1 + a < a then sg (q.1 + a) else sg2 (q.1 + a - a)) = true then -1 else 1
        have e9 : (if q.1 + a < a then sg (q.1 + a) else sg2 (q.1 + a - a)) = sg2 q.1 := by rw [if_neg (by omega), Nat.add_sub_cancel]
        rw [e9, hs9 _ (by omega), if_neg (by omega), Nat.add_sub_cancel]
        exact o2.2.1 q hq
    | succ k ih =>
      intro x y hx9 hI hb9 hs9
      have c12 : ∀ t0 : Int32, t0 = (if x < a then z3.2.1 1006 x else z3.2.1 2006 (x - a)) → Tt (fun K i => q_X13_join K i 12 d (nI v) e (nI w) (nI a) (nI x) 0 0 t0 (nI x) y) Q := by
        intro t0 ht0
        refine u_X13_join_12 ?_; unfold qm_X13_join_12
        refine w_wrI (pl6 pn3) rfl (by omega) ?_
        rw [nI_1]
        refine ih (x + 1) _ (by omega) (fr_I2 hI (by omega)) (bmX_fr (P := fun g => g = 3006) (fr_I rfl) (fun g hg => by omega) hb9) (fun x' hx' => ?_)
        by_cases he : x' = x
        · rw [he, ← ht0]
          exact po_usI_at
        · exact rd_ne he (hs9 x' (by omega))
      refine u_X13_join_11 ?_; unfold qm_X13_join_11
      refine w_leF (a := 20) (by omega) (by omega) (w_le (by omega) (by omega) (fun h9 => ?_) (fun h9 => ?_))
      · rw [pk_sub h9]
        refine w_rdI (pl6 pn2) rfl (by omega) rfl (c12 _ ?_)
        rw [if_neg (by omega)]
        exact congrFun (hI 2006 (by omega)).2.1 _
      · refine w_rdI (pl6 pn1) rfl (by omega) rfl (c12 _ ?_)
        rw [if_pos h9]
        exact congrFun (hI 1006 (by omega)).2.1 _
  -- a component of the second net as it is
  have l9 : ∀ (m : Nat) (C : List (List Nat)), m < B.length → C.length < 39 → C.flatten.length + (rn_b B (m + 1) - rn_b B m) ≤ 39 → (∀ y2, I y2 → bmX y2 3000 D (C ++ [seg (rn_b D (A.length + m)) (rn_b D (A.length + m + 1))]) [] → Tt (fun K i => q_X13_join K i 8 d (nI v) e (nI w) (nI a) (nI (m + 1)) 0 0 0 0 y2) Q) → ∀ (k i : Nat) (y : ow_MS), i + k = rn_b B (m + 1) → rn_b B m ≤ i → I y → bmX y 3000 D C (seg (rn_b D (A.length + m)) (A.flatten.length + i)) → Tt (fun K i9 => q_X13_join K i9 9 d (nI v) e (nI w) (nI a) (nI m) (nI i) 0 0 0 y) Q := by
    intro m C hm hq hsz hout k
    have hbm := rn_b_le B (m + 1)
    have e1 := bB m
    have e2 : rn_b D (A.length + m + 1) = A.flatten.length + rn_b B (m + 1) := bB (m + 1)
    rw [e2] at hout
    induction k with
    | zero =>
      intro i y hi hlo hI hb9
      have hie : i = rn_b B (m + 1) := by omega
      rw [hie] at hb9 ⊢
      refine u_X13_join_9 ?_; unfold qm_X13_join_9
      rw [nI_1]
      refine w_rdI (pl3 pn2) rfl (by omega) (lk_b (oB hI).1 (by omega)) (w_leT (by omega) (Nat.le_refl _) (w_cs0 (bmX_end pn3 hb9 hq) (fun y2 ⟨g1, g2⟩ => ?_)))
      refine u_X13_join_10 ?_; unfold qm_X13_join_10
      rw [nI_1]
      exact hout y2 (endI hI g2) g1
    | succ k ihk =>
      intro i y hi hlo hI hb9
      have hil : i < B.flatten.length := by omega
      have ad := bmX_add (i := A.flatten.length + i) pn3 hb9 (by rw [seg_len, e1]; omega)
      rw [(evB i hil).1, (evB i hil).2] at ad
      refine u_X13_join_9 ?_; unfold qm_X13_join_9
      rw [nI_1]
      refine w_rdI (pl3 pn2) rfl (by omega) (lk_b (oB hI).1 (by omega)) (w_leF (by omega) (by omega) (w_rdI (pl4 pn2) rfl (by omega) (lk_cu (oB hI).1 hil).1 (w_rdI (pl5 pn2) rfl (by omega) (lk_cu (oB hI).1 hil).2 ?_)))
      rw [nI_add]
      refine w_cs0 ad (fun y2 ⟨g1, g2⟩ => ?_)
      rw [nI_1]
      refine ihk (i + 1) y2 (by omega) (by omega) (addI hI g2) ?_
      rw [← Nat.add_assoc, seg_s (by rw [e1]; omega)]
      exact g1
  -- the other components of the second net
  generalize hK : cps D 0 c ++ [M] ++ cps D (c + 1) A.length = K1
  have K1n : K1.length = A.length := by
    rw [← hK, List.length_append, List.length_append, cps_n, cps_n]
    show c - 0 + 1 + (A.length - (c + 1)) = _
    omega
  have s0c := cps_len (A := D) (Nat.zero_le c)
  rw [rn_b0, Nat.sub_zero] at s0c
  have K1l : K1.flatten.length = A.flatten.length + (rn_b B (rn_c B w + 1) - rn_b B (rn_c B w)) := by
    have sa := cps_len (A := D) (show c + 1 ≤ A.length by omega)
    rw [← hK, List.flatten_append, List.flatten_append, List.length_append, List.length_append, s0c, sa, List.flatten_cons, List.flatten_nil, List.append_nil, hM]
    omega
  have eJ : joC D c v (A.flatten.length + w) J = K1 ++ cps D A.length J ++ cps D (J + 1) D.length := by
    rw [← hK]
    show cps D 0 c ++ [M] ++ cps D (c + 1) J ++ cps D (J + 1) D.length = _
    rw [cps_app (A := D) (a := c + 1) (b := A.length) (d := J) (by omega) (by omega), ← List.append_assoc (cps D 0 c ++ [M])]
  have l8b : ∀ (k m : Nat) (y : ow_MS), m + k = B.length → rn_c B w < m → I y → bmX y 3000 D (K1 ++ cps D A.length J ++ cps D (J + 1) (A.length + m)) [] → Tt (fun K i => q_X13_join K i 8 d (nI v) e (nI w) (nI a) (nI m) 0 0 0 0 y) Q := by
    intro k
    induction k with
    | zero =>
      intro m y hm hcm hI hb9
      have hme : m = B.length := by omega
      rw [hme, ← nD, ← eJ] at hb9
      refine u_X13_join_8 ?_; unfold qm_X13_join_8
      exact w_rdF (lk_C (oB hI).1) (w_leT (by omega) (by omega) (l11 20 0 y (by omega) hI hb9 (fun x hx => by omega)))
    | succ k ih =>
      intro m y hm hcm hI hb9
      have hmB : m < B.length := by omega
      have m1 := rn_b_mono B m
      have m2 := rn_b_le B (m + 1)
      have m3 := rn_b_mono2 (A := B) (show rn_c B w + 1 ≤ m by omega)
      have sa := cps_len (A := D) (show A.length ≤ J by omega)
      have sb := cps_len (A := D) (show J + 1 ≤ A.length + m by omega)
      have e1 := bB m
      refine u_X13_join_8 ?_; unfold qm_X13_join_8
      refine w_rdF (lk_C (oB hI).1) (w_leF (by omega) (by omega) (w_rdI (pl8 pn2) rfl (by omega) (lk_c (oB hI).1 hwl) (w_ifF (fun e9 => by have := (nI_eq (by omega) (by omega)).mp e9; omega) (w_rdI (pl3 pn2) rfl (by omega) (lk_b (oB hI).1 (by omega)) (l9 m (K1 ++ cps D A.length J ++ cps D (J + 1) (A.length + m)) hmB ?_ ?_ (fun y2 hI2 hb8 => ih (m + 1) y2 (by omega) (by omega) hI2 ?_) (rn_b B (m + 1) - rn_b B m) (rn_b B m) y (by omega) (Nat.le_refl _) hI ?_)))))
      · rw [List.length_append, List.length_append, cps_n, cps_n, K1n]
        omega
      · rw [List.flatten_append, List.flatten_append, List.length_append, List.length_append, K1l, sa, sb]
        omega
      · rw [show A.length + (m + 1) = A.length + m + 1 by omega, cps_s (show J + 1 ≤ A.length + m by omega), ← List.append_assoc]
        exact hb8
      · rw [e1, seg_0]
        exact hb9
  have l8a : ∀ (k m : Nat) (y : ow_MS), m + k = rn_c B w → I y → bmX y 3000 D (K1 ++ cps D A.length (A.length + m)) [] → Tt (fun K i => q_X13_join K i 8 d (nI v) e (nI w) (nI a) (nI m) 0 0 0 0 y) Q := by
    intro k
    induction k with
    | zero =>
      intro m y hm hI hb9
      have hme : m = rn_c B w := by omega
      rw [hme, ← hJ] at hb9
      rw [hme]
      refine u_X13_join_8 ?_; unfold qm_X13_join_8
      refine w_rdF (lk_C (oB hI).1) (w_leF (by omega) (by omega) (w_rdI (pl8 pn2) rfl (by omega) (lk_c (oB hI).1 hwl) (w_ifT rfl ?_)))
      refine u_X13_join_10 ?_; unfold qm_X13_join_10
      rw [nI_1]
      refine l8b (B.length - (rn_c B w + 1)) (rn_c B w + 1) y (by omega) (by omega) hI ?_
      rw [show A.length + (rn_c B w + 1) = J + 1 by omega, cps_0, List.append_nil]
      exact hb9
    | succ k ih =>
      intro m y hm hI hb9
      have hmB : m < B.length := by omega
      have m1 := rn_b_mono B m
      have m3 := rn_b_mono2 (A := B) (show m + 1 ≤ rn_c B w by omega)
      have sa := cps_len (A := D) (show A.length ≤ A.length + m by omega)
      have e1 := bB m
      refine u_X13_join_8 ?_; unfold qm_X13_join_8
      refine w_rdF (lk_C (oB hI).1) (w_leF (by omega) (by omega) (w_rdI (pl8 pn2) rfl (by omega) (lk_c (oB hI).1 hwl) (w_ifF (fun e9 => by have := (nI_eq (by omega) (by omega)).mp e9; omega) (w_rdI (pl3 pn2) rfl (by omega) (lk_b (oB hI).1 (by omega)) (l9 m (K1 ++ cps D A.length (A.length + m)) hmB ?_ ?_ (fun y2 hI2 hb8 => ih (m + 1) y2 (by omega) hI2 ?_) (rn_b B (m + 1) - rn_b B m) (rn_b B m) y (by omega) (Nat.le_refl _) hI ?_)))))
      · rw [List.length_append, cps_n, K1n]
        omega
      · rw [List.flatten_append, List.length_append, K1l, sa]
        omega
      · rw [show A.length + (m + 1) = A.length + m + 1 by omega, cps_s (show A.length ≤ A.length + m by omega), ← List.append_assoc]
        exact hb8
      · rw [e1, seg_0]
        exact hb9
  -- a stretch of the first net without v
  have l5 : ∀ (m lo : Nat) (C : List (List Nat)) (Bo : List Nat), m < A.length → C.length < 39 → C.flatten.length + Bo.length + (rn_b A (m + 1) - lo) ≤ 39 → (v < lo ∨ rn_b A (m + 1) ≤ v) → (∀ y2, I y2 → bmX y2 3000 D (C ++ [Bo ++ seg lo (rn_b A (m + 1))]) [] → Tt (fun K i => q_X13_join K i 4 d (nI v) e (nI w) (nI a) (nI (m + 1)) 0 0 0 0 y2) Q) → ∀ (k i : Nat) (y : ow_MS), i + k = rn_b A (m + 1) → lo ≤ i → I y → bmX y 3000 D C (Bo ++ seg lo i) → Tt (fun K i9 => q_X13_join K i9 5 d (nI v) e (nI w) (nI a) (nI m) (nI i) 0 0 0 y) Q := by
    intro m lo C Bo hm hq hsz hvn hout k
    have hbm := rn_b_le A (m + 1)
    induction k with
    | zero =>
      intro i y hi hlo hI hb9
      have hie : i = rn_b A (m + 1) := by omega
      rw [hie] at hb9 ⊢
      refine u_X13_join_5 ?_; unfold qm_X13_join_5
      rw [nI_1]
      exact w_rdI (pl3 pn1) rfl (by omega) (lk_b (oA hI).1 (by omega)) (w_leT (by omega) (Nat.le_refl _) (w_cs0 (bmX_end pn3 hb9 hq) (fun y2 ⟨g1, g2⟩ => hout y2 (endI hI g2) g1)))
    | succ k ihk =>
      intro i y hi hlo hI hb9
      have hil : i < A.flatten.length := by omega
      have ad := bmX_add (i := i) pn3 hb9 (by rw [List.length_append, seg_len]; omega)
      rw [(evA i hil).1, (evA i hil).2] at ad
      refine u_X13_join_5 ?_; unfold qm_X13_join_5
      rw [nI_1]
      refine w_rdI (pl3 pn1) rfl (by omega) (lk_b (oA hI).1 (by omega)) (w_leF (by omega) (by omega) (w_rdI (pl4 pn1) rfl (by omega) (lk_cu (oA hI).1 hil).1 (w_rdI (pl5 pn1) rfl (by omega) (lk_cu (oA hI).1 hil).2 (w_cs0 ad (fun y2 ⟨g1, g2⟩ => w_ifF (fun e9 => by have := (nI_eq (by omega) (by omega)).mp e9; omega) ?_)))))
      refine u_X13_join_7 ?_; unfold qm_X13_join_7
      rw [nI_1]
      refine ihk (i + 1) y2 (by omega) (by omega) (addI hI g2) ?_
      rw [seg_s hlo, ← List.append_assoc]
      exact g1
  have l4b : ∀ (k m : Nat) (y : ow_MS), m + k = A.length → c < m → I y → bmX y 3000 D (cps D 0 c ++ [M] ++ cps D (c + 1) m) [] → Tt (fun K i => q_X13_join K i 4 d (nI v) e (nI w) (nI a) (nI m) 0 0 0 0 y) Q := by
    intro k
    induction k with
    | zero =>
      intro m y hm hcm hI hb9
      have hme : m = A.length := by omega
      rw [hme, hK] at hb9
      refine u_X13_join_4 ?_; unfold qm_X13_join_4
      refine w_rdF (lk_C (oA hI).1) (w_leT (by omega) (by omega) (l8a (rn_c B w) 0 y (by omega) hI ?_))
      rw [Nat.add_zero, cps_0, List.append_nil]
      exact hb9
    | succ k ih =>
      intro m y hm hcm hI hb9
      have m1 := rn_b_mono A m
      have m2 := rn_b_le A (m + 1)
      have m3 := rn_b_mono2 (A := A) (show c + 1 ≤ m by omega)
      have sa := cps_len (A := D) (show c + 1 ≤ m by omega)
      have e1 := bA m (by omega)
      have e2 := bA (m + 1) (by omega)
      refine u_X13_join_4 ?_; unfold qm_X13_join_4
      refine w_rdF (lk_C (oA hI).1) (w_leF (by omega) (by omega) (w_rdI (pl3 pn1) rfl (by omega) (lk_b (oA hI).1 (by omega)) (l5 m (rn_b A m) (cps D 0 c ++ [M] ++ cps D (c + 1) m) [] (by omega) ?_ ?_ (Or.inl (by omega)) (fun y2 hI2 hb8 => ih (m + 1) y2 (by omega) (by omega) hI2 ?_) (rn_b A (m + 1) - rn_b A m) (rn_b A m) y (by omega) (Nat.le_refl _) hI ?_)))
      · rw [List.length_append, List.length_append, cps_n, cps_n]
        show c - 0 + 1 + (m - (c + 1)) < 39
        omega
      · rw [List.flatten_append, List.flatten_append, List.length_append, List.length_append, s0c, sa, List.flatten_cons, List.flatten_nil, List.append_nil, hM]
        show _ + 0 + _ ≤ 39
        omega
      · rw [cps_s (show c + 1 ≤ m by omega), ← List.append_assoc, e1, e2]
        exact hb8
      · rw [seg_0]
        exact hb9
  -- the component with v
  have l6 : ∀ (k t : Nat) (y : ow_MS), t + 1 + k = rlen B (rn_c B w) → I y → bmX y 3000 D (cps D 0 c) (seg (rn_b D c) (v + 1) ++ (List.range t).map (fun s => A.flatten.length + rv B w (s + 1))) → Tt (fun K i9 => q_X13_join K i9 6 d (nI v) e (nI w) (nI a) (nI c) (nI v) (nI (rv B w t)) 0 0 y) Q := by
    have erl : rlen B (rn_c B w) = rn_b B (rn_c B w + 1) - rn_b B (rn_c B w) := rfl
    intro k
    induction k with
    | zero =>
      intro t y ht hI hb8
      have htl : t < rlen B (rn_c B w) := by omega
      have hnx := rv_nx hwl htl
      rw [if_pos (by omega)] at hnx
      have hrt := rv_lt hwl htl
      have ad := bmX_add (i := A.flatten.length + w) pn3 hb8 (by rw [s0c, List.length_append, seg_len, List.length_map, List.length_range]; omega)
      rw [(evB w hwl).1, (evB w hwl).2] at ad
      refine u_X13_join_6 ?_; unfold qm_X13_join_6
      refine w_rdI (pl9 pn2) rfl (by omega) (lk_n (oB hI).1 hrt) ?_
      rw [hnx]
      refine w_rdI (pl4 pn2) rfl (by omega) (lk_cu (oB hI).1 hwl).1 (w_rdI (pl5 pn2) rfl (by omega) (lk_cu (oB hI).1 hwl).2 ?_)
      rw [nI_add]
      refine w_cs0 ad (fun y2 ⟨g1, g2⟩ => w_ifT rfl ?_)
      have eL : (seg (rn_b D c) (v + 1) ++ (List.range t).map (fun s => A.flatten.length + rv B w (s + 1))) ++ [A.flatten.length + w] = (seg (rn_b D c) (v + 1) ++ seg (A.flatten.length + w + 1) (rn_b D (J + 1))) ++ seg (rn_b D J) (A.flatten.length + w + 1) := by
        rw [bJ1, bJ, List.append_assoc, List.append_assoc, ← ring_seg hwl, show rlen B (rn_c B w) = t + 1 by omega, List.range_succ, List.map_append]
        show _ = _ ++ (_ ++ [A.flatten.length + rv B w (t + 1)])
        rw [show t + 1 = rlen B (rn_c B w) by omega, rv_len hwl]
      rw [eL] at g1
      refine u_X13_join_7 ?_; unfold qm_X13_join_7
      rw [nI_1]
      refine l5 c (v + 1) (cps D 0 c) ((seg (rn_b D c) (v + 1) ++ seg (A.flatten.length + w + 1) (rn_b D (J + 1))) ++ seg (rn_b D J) (A.flatten.length + w + 1)) (by omega) (by rw [cps_n]; omega) ?_ (Or.inl (by omega)) (fun y3 hI3 hb3 => l4b (A.length - (c + 1)) (c + 1) y3 (by omega) (by omega) hI3 ?_) (rn_b A (c + 1) - (v + 1)) (v + 1) y2 (by omega) (Nat.le_refl _) (addI hI g2) ?_
      · rw [s0c, List.length_append, List.length_append, seg_len, seg_len, seg_len]
        omega
      · rw [cps_0, List.append_nil]
        show bmX y3 3000 D (cps D 0 c ++ [((seg (rn_b D c) (v + 1) ++ seg (A.flatten.length + w + 1) (rn_b D (J + 1))) ++ seg (rn_b D J) (A.flatten.length + w + 1)) ++ seg (v + 1) (rn_b D (c + 1))]) []
        rw [bc1]
        exact hb3
      · rw [seg_0, List.append_nil]
        exact g1
    | succ k ihr =>
      intro t y ht hI hb8
      have htl : t < rlen B (rn_c B w) := by omega
      have hnx := rv_nx hwl htl
      rw [if_neg (by omega)] at hnx
      have hrt := rv_lt hwl htl
      have hr1 := rv_lt hwl (show t + 1 < rlen B (rn_c B w) by omega)
      have hrn := rv_ne hwl (show t + 1 < rlen B (rn_c B w) by omega) (by omega)
      have ad := bmX_add (i := A.flatten.length + rv B w (t + 1)) pn3 hb8 (by rw [s0c, List.length_append, seg_len, List.length_map, List.length_range]; omega)
      rw [(evB _ hr1).1, (evB _ hr1).2] at ad
      refine u_X13_join_6 ?_; unfold qm_X13_join_6
      refine w_rdI (pl9 pn2) rfl (by omega) (lk_n (oB hI).1 hrt) ?_
      rw [hnx]
      refine w_rdI (pl4 pn2) rfl (by omega) (lk_cu (oB hI).1 hr1).1 (w_rdI (pl5 pn2) rfl (by omega) (lk_cu (oB hI).1 hr1).2 ?_)
      rw [nI_add]
      refine w_cs0 ad (fun y2 ⟨g1, g2⟩ => w_ifF (fun e9 => hrn ((nI_eq (by omega) (by omega)).mp e9)) (ihr (t + 1) y2 (by omega) (addI hI g2) ?_))
      rw [List.range_succ, List.map_append, ← List.append_assoc]
      exact g1
  have l5v : ∀ (k i : Nat) (y : ow_MS), i + k = v → rn_b A c ≤ i → I y → bmX y 3000 D (cps D 0 c) (seg (rn_b D c) i) → Tt (fun K i9 => q_X13_join K i9 5 d (nI v) e (nI w) (nI a) (nI c) (nI i) 0 0 0 y) Q := by
    intro k
    induction k with
    | zero =>
      intro i y hi hlo hI hb9
      have hie : i = v := by omega
      rw [hie] at hb9 ⊢
      have ad := bmX_add (i := v) pn3 hb9 (by rw [s0c, seg_len]; omega)
      rw [(evA v hvl).1, (evA v hvl).2] at ad
      have hrl := rlen_pos hwl
      refine u_X13_join_5 ?_; unfold qm_X13_join_5
      rw [nI_1]
      refine w_rdI (pl3 pn1) rfl (by omega) (lk_b (oA hI).1 (by omega)) (w_leF (by omega) (by omega) (w_rdI (pl4 pn1) rfl (by omega) (lk_cu (oA hI).1 hvl).1 (w_rdI (pl5 pn1) rfl (by omega) (lk_cu (oA hI).1 hvl).2 (w_cs0 ad (fun y2 ⟨g1, g2⟩ => w_ifT rfl ?_)))))
      have := l6 (rlen B (rn_c B w) - 1) 0 y2 (by omega) (addI hI g2) (by
        rw [seg_s (by rw [bc]; omega)]
        show bmX y2 3000 D (cps D 0 c) ((seg (rn_b D c) v ++ [v]) ++ [])
        rw [List.append_nil]
        exact g1)
      rw [rv_0 hwl] at this
      exact this
    | succ k ihk =>
      intro i y hi hlo hI hb9
      have hil : i < A.flatten.length := by omega
      have ad := bmX_add (i := i) pn3 hb9 (by rw [s0c, seg_len]; omega)
      rw [(evA i hil).1, (evA i hil).2] at ad
      refine u_X13_join_5 ?_; unfold qm_X13_join_5
      rw [nI_1]
      refine w_rdI (pl3 pn1) rfl (by omega) (lk_b (oA hI).1 (by omega)) (w_leF (by omega) (by omega) (w_rdI (pl4 pn1) rfl (by omega) (lk_cu (oA hI).1 hil).1 (w_rdI (pl5 pn1) rfl (by omega) (lk_cu (oA hI).1 hil).2 (w_cs0 ad (fun y2 ⟨g1, g2⟩ => w_ifF (fun e9 => by have := (nI_eq (by omega) (by omega)).mp e9; omega) ?_)))))
      refine u_X13_join_7 ?_; unfold qm_X13_join_7
      rw [nI_1]
      refine ihk (i + 1) y2 (by omega) (by omega) (addI hI g2) ?_
      rw [seg_s (by rw [bc]; exact hlo)]
      exact g1
  have l4a : ∀ (k m : Nat) (y : ow_MS), m + k = c → I y → bmX y 3000 D (cps D 0 m) [] → Tt (fun K i => q_X13_join K i 4 d (nI v) e (nI w) (nI a) (nI m) 0 0 0 0 y) Q := by
    intro k
    induction k with
    | zero =>
      intro m y hm hI hb9
      have hme : m = c := by omega
      rw [hme] at hb9 ⊢
      refine u_X13_join_4 ?_; unfold qm_X13_join_4
      refine w_rdF (lk_C (oA hI).1) (w_leF (by omega) (by omega) (w_rdI (pl3 pn1) rfl (by omega) (lk_b (oA hI).1 (by omega)) (l5v (v - rn_b A c) (rn_b A c) y (by omega) (Nat.le_refl _) hI ?_)))
      rw [bc, seg_0]
      exact hb9
    | succ k ih =>
      intro m y hm hI hb9
      have m1 := rn_b_mono A m
      have m3 := rn_b_mono2 (A := A) (show m + 1 ≤ c by omega)
      have sm := cps_len (A := D) (Nat.zero_le m)
      rw [rn_b0, Nat.sub_zero] at sm
      have e1 := bA m (by omega)
      have e2 := bA (m + 1) (by omega)
      refine u_X13_join_4 ?_; unfold qm_X13_join_4
      refine w_rdF (lk_C (oA hI).1) (w_leF (by omega) (by omega) (w_rdI (pl3 pn1) rfl (by omega) (lk_b (oA hI).1 (by omega)) (l5 m (rn_b A m) (cps D 0 m) [] (by omega) (by rw [cps_n]; omega) (by rw [sm]; show _ + 0 + _ ≤ 39; omega) (Or.inr (by omega)) (fun y2 hI2 hb8 => ih (m + 1) y2 (by omega) hI2 ?_) (rn_b A (m + 1) - rn_b A m) (rn_b A m) y (by omega) (Nat.le_refl _) hI ?_)))
      · rw [cps_s (Nat.zero_le m), e1, e2]
        exact hb8
      · rw [seg_0]
        exact hb9
  refine l4a c 0 z4 (by omega) (fr_mono (fun g hg => by omega) f4) ?_
  rw [cps_0]
  exact b4
end XJ
end
section
/-! 99zzzzzzzzzn.xjc -/
/-! exact calls: join, of the class -/
section XJC
variable {vl : Nat → Nat} {y : ow_MS} {St : plT} {x x' : Int32}
theorem xc_join {v0 w0 : Int32} (hN : gN y) (hC : relC y St) (hS : okS St) : Te (fun K => ce_X11_join vl K 0 x v0 x' w0 y) (fun r => r.1 = 1 ∧ gN r.2.2 ∧ fr uP y r.2.2 ∧ relC r.2.2 St ∧ joN St x v0 x' w0 ∨ ∃ A sg B sg' v w, joG St x v0 x' w0 A sg B sg' v w ∧ (r.1 = 4 ∧ gN r.2.2 ∧ fr uP y r.2.2 ∧ relC r.2.2 St ∧ (24 < A.flatten.length + B.flatten.length ∨ 6 < A.length + B.length - 1) ∨ A.flatten.length + B.flatten.length ≤ 24 ∧ A.length + B.length - 1 ≤ 6 ∧ (r.1 = 3 ∧ gN r.2.2 ∧ fr uP y r.2.2 ∧ relC r.2.2 St ∧ allF St ∨ r.1 = 0 ∧ ∃ f, lstF St f ∧ cKp y f (joV A B (A.flatten.length / 2) v w) (joS A sg sg') r.2))) := by
  refine e_X11_join ?_; unfold cm_X11_join_0
  refine w_tc0 (xc_need hN.1 hC hS) ?_ ?_
  · rintro y1 ⟨h1, rfl⟩
    rcases h1 with h1 | ⟨-, d, A, sg, c, hd, rfl, hSt, hs, hA, hne, hpl⟩
    · exact absurd (show (0 : Nat) = 1 from h1.1) (by decide)
    · have e3 : y1.2.1 1003 d = nI c := by
        have := hs.1
        rw [(okL_c (sg := sg) hA).1] at this
        exact this
      have hc12 := hA.2.2.2.1
      have lA := okF_len hA.1
      have noV : (∀ v, v < A.flatten.length → v0 ≠ nI v) → joN St (nI d) v0 x' w0 := fun hno A1 sg1 B1 sg1' v w hG => by
        obtain ⟨⟨d', a1, a2, a3⟩, -, b1, b2, -⟩ := hG
        have e1 := (pl_uni a1 hd a2 rfl a3 hSt).1
        rw [e1] at b1
        exact hno v b1 b2
      refine w_if (fun hv0 => w_some (Or.inl ⟨rfl, hN, fr_rf, hC, noV (fun v hv9 ev => ?_)⟩)) (fun v0' => w_crI (tH_3 ch_1000) rfl hd e3 ?_)
      · rw [ev] at hv0
        exact absurd hv0 (nI_pos (by omega))
      obtain ⟨i, i31, rfl⟩ := nI_of v0'
      rw [show (2 : Int32) * nI c = nI (2 * c) from pk_mul 2 _]
      refine w_lt i31 (by omega) (fun hic => ?_) (fun hic => w_some (Or.inl ⟨rfl, hN, fr_rf, hC, noV (fun v hv9 ev => ?_)⟩))
      rotate_left
      · have := nI_inj9 (a := i) (b := v) (by omega) (by omega) ev
        omega
      refine w_tc0 (xc_need hN.1 hC hS) ?_ ?_
      · rintro y2 ⟨h2, rfl⟩
        rcases h2 with h2 | ⟨-, e, B, sg', c', he, rfl, hSt', hs', hB, hne', hpl'⟩
        · exact absurd (show (0 : Nat) = 1 from h2.1) (by decide)
        · have e3' : y2.2.1 1003 e = nI c' := by
            have := hs'.1
            rw [(okL_c (sg := sg') hB).1] at this
            exact this
          have hc12' := hB.2.2.2.1
          have lB := okF_len hB.1
          have noW : (∀ w, w < B.flatten.length → w0 ≠ nI w) → joN St (nI d) (nI i) (nI e) w0 := fun hno A1 sg1 B1 sg1' v w hG => by
            obtain ⟨-, ⟨d', a1, a2, a3⟩, -, -, b1, b2⟩ := hG
            have e1 := (pl_uni a1 he a2 rfl a3 hSt').1
            rw [e1] at b1
            exact hno w b1 b2
          refine w_if (fun hw0 => w_some (Or.inl ⟨rfl, hN, fr_rf, hC, noW (fun v hv9 ev => ?_)⟩)) (fun w0' => w_crI (tH_3 ch_1000) rfl he e3' ?_)
          · rw [ev] at hw0
            exact absurd hw0 (nI_pos (by omega))
          obtain ⟨j, j31, rfl⟩ := nI_of w0'
          rw [show (2 : Int32) * nI c' = nI (2 * c') from pk_mul 2 _]
          refine w_lt j31 (by omega) (fun hjc => ?_) (fun hjc => w_some (Or.inl ⟨rfl, hN, fr_rf, hC, noW (fun v hv9 ev => ?_)⟩))
          rotate_left
          · have := nI_inj9 (a := j) (b := v) (by omega) (by omega) ev
            omega
          have hiv : i < A.flatten.length := by omega
          have hjv : j < B.flatten.length := by omega
          have hG : joG St (nI d) (nI i) (nI e) (nI j) A sg B sg' i j := ⟨⟨d, hd, rfl, hSt⟩, ⟨e, he, rfl, hSt'⟩, hiv, rfl, hjv, rfl⟩
          have ea : A.flatten.length / 2 = c := by omega
          refine w_tc0 (xc_loadBoth (j := 1) hN hC hd he hs hA hpl hs' hB hpl' hne (by omega)) ?_ ?_
          · rintro y3 ⟨hN3, f3, hC3, sl3, h3⟩
            rcases h3 with ⟨-, h12, h6, T, R, hT, hR, eT, eR⟩ | h3
            · have h12' : T.1 + R.1 ≤ 12 := by omega
              refine w_tc1 (xc_free hN3.1 hC3 hS) ?_ ?_
              · rintro u y4 ⟨h4, rfl⟩
                rcases h4 with h4 | ⟨-, q, rfl, hq⟩
                · exact absurd (show (0 : Nat) = 3 from h4.1) (by decide)
                · have nT := hT.1.2.2.1
                  have nR := hR.1.2.2.1
                  have a1' : lb (vAt A i) < 2 * T.1 := lbv_lt hT.1.2.1 hiv
                  have b1' : lb (vAt B j) < 2 * R.1 := lbv_lt hR.1.2.1 hjv
                  refine w_crI (nH_4 nH4) rfl (show i < 24 by omega) (hT.1.2.2.2.1 i _ (vAt_of hiv)) (w_rdF hT.1.1.1 (w_crI (nH_4 nH5) rfl (show j < 24 by omega) (hR.1.2.2.2.1 j _ (vAt_of hjv)) ?_))
                  refine w_cs0 (tc_append nH4 nH5 (by unfold nDj; omega) hT.1.1 hR.1.1 h12') ?_
                  rintro y5 ⟨g1, g2⟩
                  have g1 : cAt y5 4000 (ntA T R) := g1
                  obtain ⟨n1, n2, n3, n4, n5⟩ := ntA_ok nT nR h12'
                  have n1' : vn (T.1 + R.1) (ntA T R).2.2.1 := n1
                  rw [show (2 : Int32) * nI T.1 = nI (2 * T.1) from pk_mul 2 _, nI_add]
                  refine w_cs0 (tc_exchange nH4 g1 n2 (show lb (vAt A i) < 24 by omega) (show 2 * T.1 + lb (vAt B j) < 24 by omega)) ?_
                  rintro y6 ⟨g3, g4⟩
                  have hm := rg_merge (v := lb (vAt A i)) (w := 2 * T.1 + lb (vAt B j)) n1' h12' (by omega) (by omega) (fun k e9 => by
                    rw [n4 _ _ a1'] at e9
                    have := it_lt nT.1 a1' k
                    omega)
                  have r1 := iso_rg hT.1.2.1
                  have r2 := iso_rg hR.1.2.1
                  have n3' : np_rg (T.1 + R.1) (ntA T R).2.2.1 = np_rg T.1 T.2.2.1 + np_rg R.1 R.2.2.1 := n3
                  have hv : nv (ntS (ntA T R) (np_exchange (ntA T R).2.2.1 (lb (vAt A i)) (2 * T.1 + lb (vAt B j)))) := ⟨vn_exchange n1' (by omega) (by omega), h12', b24_exchange n2 (by omega) (by omega), by
                    show np_rg (T.1 + R.1) (np_exchange (ntA T R).2.2.1 (lb (vAt A i)) (2 * T.1 + lb (vAt B j))) + (T.2.1 + R.2.1) ≤ 6
                    omega⟩
                  have hV3 := iso_app (k := A.flatten.length / 2) hT.2.1 hR.2.1 n1 h12' (fun p hp => by rw [ea]; exact ((hA.1.2 p).mp hp).1) (fun p hp => by have := ((hB.1.2 p).mp hp).1; omega)
                  obtain ⟨c1, c2, c3⟩ := rn_c_in A i hiv
                  obtain ⟨j1, j2, j3⟩ := rn_c_in B j hjv
                  have bl1 := A12_bl (A := A) (B := B) (s := A.flatten.length / 2) (m := rn_c A i) (by omega)
                  have bl2 := A12_bl (A := A) (B := B) (s := A.flatten.length / 2) (m := rn_c A i + 1) (by omega)
                  have br1 := A12_br (A := A) (B := B) (s := A.flatten.length / 2) (rn_c B j)
                  have br2 : rn_b (A12 A B (A.flatten.length / 2)) (A.length + rn_c B j + 1) = A.flatten.length + rn_b B (rn_c B j + 1) := A12_br (rn_c B j + 1)
                  have nD := A12_n (A := A) (B := B) (s := A.flatten.length / 2)
                  have hV4 := iso_joC (D := A12 A B (A.flatten.length / 2)) (c := rn_c A i) (v := i) (w := A.flatten.length + j) (J := A.length + rn_c B j) hV3 (by omega) (by omega) (by omega) (by omega) (by omega) (by omega)
                  have lt1 : (vAt A i).1 < A.flatten.length / 2 := by
                    rw [ea]
                    exact ((hA.1.2 _).mp (List.mem_of_getElem? (vAt_of hiv))).1
                  have gl1 : gl (fun x => if x < A.flatten.length / 2 then x else T.1 + (x - A.flatten.length / 2)) (vAt (A12 A B (A.flatten.length / 2)) i) = lb (vAt A i) := by
                    rw [A12_l hiv]
                    show 2 * (if (vAt A i).1 < A.flatten.length / 2 then (vAt A i).1 else _) + (vAt A i).2 = _
                    rw [if_pos lt1]
                    rfl
                  have gl2 : gl (fun x => if x < A.flatten.length / 2 then x else T.1 + (x - A.flatten.length / 2)) (vAt (A12 A B (A.flatten.length / 2)) (A.flatten.length + j)) = 2 * T.1 + lb (vAt B j) := by
                    rw [A12_r hjv]
                    show 2 * (if (vAt B j).1 + A.flatten.length / 2 < A.flatten.length / 2 then (vAt B j).1 + A.flatten.length / 2 else T.1 + ((vAt B j).1 + A.flatten.length / 2 - A.flatten.length / 2)) + (vAt B j).2 = 2 * T.1 + (2 * (vAt B j).1 + (vAt B j).2)
                    rw [if_neg (by omega), Nat.add_sub_cancel]
                    omega
                  rw [gl1, gl2] at hV4
                  have hN5 := gN_net nH4 g2 (fun g hg => by unfold cP at hg; omega) ⟨_, g1, n2⟩ hN3
                  refine w_cs1 (tc_keep (gN_net nH4 g4 (fun g hg => by unfold cP at hg; omega) ⟨_, g3, hv.2.2.1⟩ hN5) hq.1 g3 hv) ?_
                  rintro r y7 ⟨q0, q1, q2, ⟨Cs, os, q3, q4⟩, q5, -⟩
                  exact w_some (Or.inr ⟨A, sg, B, sg', i, j, hG, Or.inr ⟨by omega, by omega, Or.inr ⟨rfl, q, hq, q0, q1, fr_tr f3 (fr_tr (fr_mono (fun g hg => by unfold cP at hg; unfold uP; omega) g2) (fr_tr (fr_mono (fun g hg => by unfold cP at hg; unfold uP; omega) g4) q2)), ⟨_, _, Cs, os, hv, pm1_A hT.2.2.1 hR.2.2.1, hV4, pl_join nT nR h12' hT.2.2.2 hR.2.2.2 a1' b1', q3, q4⟩, fun d' C' h1 h2 h3 => q5 d' C' h1 h2 (slC_fr g4 (fun q hq h9 => by unfold cW at hq; unfold cP at h9; omega) (slC_fr g2 (fun q hq h9 => by unfold cW at hq; unfold cP at h9; omega) (sl3 d' C' h3)))⟩⟩⟩)
              · rintro a u y4 ha ⟨h4, rfl⟩
                rcases h4 with h4 | h4
                · exact w_some (Or.inr ⟨A, sg, B, sg', i, j, hG, Or.inr ⟨by omega, by omega, Or.inl ⟨h4.1, hN3, f3, hC3, h4.2⟩⟩⟩)
                · exact absurd h4.1 ha
            · exact absurd (show (0 : Nat) = 4 from h3.1) (by decide)
          · rintro a y3 ha ⟨hN3, f3, hC3, sl3, h3⟩
            rcases h3 with h3 | h3
            · exact absurd h3.1 ha
            · exact w_some (Or.inr ⟨A, sg, B, sg', i, j, hG, Or.inl ⟨h3.1, hN3, f3, hC3, by omega⟩⟩)
      · rintro a y2 ha ⟨h2, rfl⟩
        rcases h2 with h2 | h2
        · exact w_some (Or.inl ⟨h2.1, hN, fr_rf, hC, fun A1 sg1 B1 sg1' v w ⟨_, ⟨d', a1, a2, a3⟩, _⟩ => by rw [h2.2 d' a1 a2] at a3; cases a3⟩)
        · exact absurd h2.1 ha
  · rintro a y1 ha ⟨h1, rfl⟩
    rcases h1 with h1 | h1
    · exact w_some (Or.inl ⟨h1.1, hN, fr_rf, hC, fun A1 sg1 B1 sg1' v w ⟨⟨d', a1, a2, a3⟩, _⟩ => by rw [h1.2 d' a1 a2] at a3; cases a3⟩)
    · exact absurd h1.1 ha
end XJC
end
section
/-! 99zzzzzzzzzo.xvis -/
/-! exact calls: visit, alike, of both -/
/-- a call that answers and changes nothing kept -/
def rOk (X : (Nat → Nat → Int32) → Prop) (z : ow_MS) (r : Int32 × ow_MS) : Prop := gI X r.2 ∧ r.2.1 1 = 0 ∧ fr rPs z r.2
def in9 (x : Int32) (n : Nat) : Prop := ∃ k, k < n ∧ x = nI k
theorem in9_iff {x : Int32} {n : Nat} (hn : n < 2 ^ 31) : in9 x n ↔ ¬ x < 0 ∧ x < nI n := by
  constructor
  · rintro ⟨k, hk, rfl⟩
    exact ⟨nI_pos (by omega), (nI_ltI (by omega) hn).mpr hk⟩
  · rintro ⟨h0, h1⟩
    obtain ⟨k, k31, rfl⟩ := nI_of h0
    exact ⟨k, (nI_ltI k31 hn).mp h1, rfl⟩
theorem in9_le {x : Int32} {n : Nat} (hn : n + 1 < 2 ^ 31) : in9 x (n + 1) ↔ ¬ x < 0 ∧ x ≤ nI n := by
  constructor
  · rintro ⟨k, hk, rfl⟩
    exact ⟨nI_pos (by omega), (nI_leI (by omega) (by omega)).mpr (by omega)⟩
  · rintro ⟨h0, h1⟩
    obtain ⟨k, k31, rfl⟩ := nI_of h0
    exact ⟨k, by have := (nI_leI k31 (by omega)).mp h1; omega, rfl⟩
def visR (A : rn_L) (sg : Nat → Bool) (v k : Nat) : Int32 := if k = 0 then nI (rn_c A v) else if k = 1 then nI (crs A v) else if k = 2 then nI (uns A v) else if sg (crs A v) then -1 else 1
section XV
variable {X : (Nat → Nat → Int32) → Prop} {z : ow_MS} {St : plT}
theorem xq_visit {d i what : Int32} (h : gI X z) (hR : relR z St) : Te (fun K => qe_X13_visit K d i what z) (fun r => rFl X z 1 r ∧ (∀ e, e < 40 → d = nI e → St e = none) ∨ ∃ e A sg, e < 40 ∧ d = nI e ∧ St e = some (A, sg) ∧ (rFl X z 1 r ∧ ¬ in9 i A.flatten.length ∨ ∃ v, v < A.flatten.length ∧ i = nI v ∧ (rFl X z 2 r ∧ ¬ in9 what 4 ∨ rOk X z r ∧ ∃ k, k < 4 ∧ what = nI k ∧ r.1 = visR A sg v k))) := by
  let Q : Int32 × ow_MS → Prop := fun r => rFl X z 1 r ∧ (∀ e, e < 40 → d = nI e → St e = none) ∨ ∃ e A sg, e < 40 ∧ d = nI e ∧ St e = some (A, sg) ∧ (rFl X z 1 r ∧ ¬ in9 i A.flatten.length ∨ ∃ v, v < A.flatten.length ∧ i = nI v ∧ (rFl X z 2 r ∧ ¬ in9 what 4 ∨ rOk X z r ∧ ∃ k, k < 4 ∧ what = nI k ∧ r.1 = visR A sg v k))
  have h1 := gI_1 (c := 0) h
  have hR1 := relR_1 (c := 0) hR
  refine e_X13_visit ?_
  refine u_X13_visit_0 ?_; unfold qm_X13_visit_0
  refine w_wrF (w_hasX hR1 (fun h0 => w_ifT rfl (w_mono (w_failX h1 fr_1) (fun r hr => Or.inl ⟨hr, h0⟩))) (fun e A sg he hx hs hv hne => w_ifF (by decide) ?_))
  subst hx
  refine w_cs0 (to_open pn1 he hv) (fun z2 ⟨o1, f1⟩ => ?_)
  have h2 : gI X z2 := gI_net pn1 f1 (fun g hg => by omega) h1
  have hl := o1.len
  have f02 : fr rPs z z2 := fr_tr fr_1 (fr_mono (fun g hg => Or.inr (by unfold rSc; omega)) f1)
  have z21 : z2.1 1 = 0 := by rw [(f1 1 (by omega)).1]; exact po_usF_at
  have fin : ∀ {r}, (rFl X z 1 r ∧ ¬ in9 i A.flatten.length ∨ ∃ v, v < A.flatten.length ∧ i = nI v ∧ (rFl X z 2 r ∧ ¬ in9 what 4 ∨ rOk X z r ∧ ∃ k, k < 4 ∧ what = nI k ∧ r.1 = visR A sg v k)) → Q r := fun hr => Or.inr ⟨e, A, sg, he, rfl, hs, hr⟩
  have c1 : ¬ in9 i A.flatten.length → Tt (fun K k => q_X13_visit K k 1 (nI e) i what z2) Q := by
    intro hno
    refine u_X13_visit_1 ?_; unfold qm_X13_visit_1
    exact w_mono (w_failX (k := 1) h2 f02) (fun r hr => fin (Or.inl ⟨hr, hno⟩))
  have hi9 := in9_iff (x := i) (n := A.flatten.length) (by omega)
  refine w_if (fun h9 => c1 (fun h8 => (hi9.mp h8).1 h9)) (fun h0 => w_rdF o1.1.V (w_if (fun h9 => ?_) (fun h9 => c1 (fun h8 => h9 (hi9.mp h8).2))))
  obtain ⟨v, hv31, rfl⟩ := nI_of h0
  have hvl : v < A.flatten.length := (nI_ltI hv31 (by omega)).mp h9
  obtain ⟨x1, x2, x3⟩ := o1.cx hvl
  have ok : ∀ {a : Int32} (k : Nat), k < 4 → what = nI k → a = visR A sg v k → Q (a, z2) := fun k k1 k2 k3 => fin (Or.inr ⟨v, hvl, rfl, Or.inr ⟨⟨h2, z21, f02⟩, k, k1, k2, k3⟩⟩)
  have key : ∀ k : Nat, k < 4 → what.toInt = (k : Int) → what = nI k := by
    intro k hk e9
    refine Int32.toInt_inj.mp ?_
    rw [e9, nI_toInt (by omega)]
  have no4 : what.toInt < 0 ∨ 3 < what.toInt → ¬ in9 what 4 := fun h8 ⟨k, k1, k2⟩ => by
    rw [k2, nI_toInt (by omega)] at h8
    omega
  refine w_if (fun h8 => w_mono (w_failX (k := 2) h2 f02) (fun r hr => fin (Or.inr ⟨v, hvl, rfl, Or.inl ⟨hr, no4 h8⟩⟩))) (fun hw => w_if (fun q => w_rdI (pl8 pn1) rfl (by omega) (lk_c o1.1 hvl) (w_some (ok 0 (by omega) q rfl))) (fun w0 => w_if (fun q => w_rdI (pl4 pn1) rfl (by omega) (lk_cu o1.1 hvl).1 (w_some (ok 1 (by omega) q rfl))) (fun w1 => w_if (fun q => w_rdI (pl5 pn1) rfl (by omega) (lk_cu o1.1 hvl).2 (w_some (ok 2 (by omega) q rfl))) (fun w2 => w_if (fun q => w_rdI (pl4 pn1) rfl (by omega) (lk_cu o1.1 hvl).1 (w_rdI (pl6 pn1) rfl (by omega) (o1.2.1 _ (vAt_mem hvl)) (w_some (ok 3 (by omega) q rfl)))) (fun w3 => ?_)))))
  exfalso
  have hge : 0 ≤ what.toInt := by omega
  have hle : what.toInt ≤ 3 := by omega
  obtain ⟨k, hk⟩ := Int.eq_ofNat_of_zero_le hge
  have hk4 : k < 4 := by omega
  have hwk := key k hk4 hk
  have : k = 0 ∨ k = 1 ∨ k = 2 ∨ k = 3 := by omega
  rcases this with e9 | e9 | e9 | e9 <;> subst e9
  · exact w0 hwk
  · exact w1 hwk
  · exact w2 hwk
  · exact w3 hwk
end XV
section XVC
variable {vl : Nat → Nat} {y : ow_MS} {St : plT} {x x' : Int32}
theorem iso_sg1 {A : rn_L} {sg : Nat → Bool} {f : Nat → Nat} {T : ow_NT} (h : isoV A sg f T) (hp : pm1 T) {p : vT} (hpA : p ∈ A.flatten) : T.2.2.2 (f p.1) = if sg p.1 then -1 else 1 := by
  have hs := h.1.2.2.2.2.2.2.1 p hpA
  rcases hp _ (h.1.2.2.2.1 p hpA) with e | e
  · rw [e] at hs ⊢
    rw [if_neg (fun h9 => absurd (hs.mpr h9) (by decide))]
  · rw [e] at hs ⊢
    rw [if_pos (hs.mp (by decide))]
theorem xc_visit {x3 : Int32} (hN : gN y) (hC : relC y St) (hS : okS St) : Te (fun K => ce_X11_visit vl K 0 x x' x3 y) (fun r => gN r.2.2 ∧ fr uP y r.2.2 ∧ relC r.2.2 St ∧ (r.1 = 1 ∧ (∀ e, e < 40 → x = nI e → St e = none) ∨ ∃ e A sg, e < 40 ∧ x = nI e ∧ St e = some (A, sg) ∧ (r.1 = 1 ∧ ¬ in9 x' A.flatten.length ∨ ∃ v, v < A.flatten.length ∧ x' = nI v ∧ (r.1 = 2 ∧ ¬ in9 x3 4 ∨ r.1 = 0 ∧ ∃ k, k < 4 ∧ x3 = nI k ∧ r.2.1 = visR A sg v k)))) := by
  refine e_X11_visit ?_; unfold cm_X11_visit_0
  refine w_tc0 (xc_need hN.1 hC hS) ?_ ?_
  · rintro y1 ⟨h1, rfl⟩
    rcases h1 with h1 | ⟨-, d, A, sg, c, hd, rfl, hSt, hs, hA, hne, hpl⟩
    · exact absurd (show (0 : Nat) = 1 from h1.1) (by decide)
    · have hc12 := hA.2.2.2.1
      have hl := okF_len hA.1
      have e3 : y1.2.1 1003 d = nI c := by
        have := hs.1
        rw [(okL_c (sg := sg) hA).1] at this
        exact this
      have hi9 := in9_iff (x := x') (n := A.flatten.length) (by omega)
      have h39 := in9_le (x := x3) (n := 3) (by omega)
      refine w_if (fun e => w_some ⟨hN, fr_rf, hC, Or.inr ⟨d, A, sg, hd, rfl, hSt, Or.inl ⟨rfl, fun h8 => (hi9.mp h8).1 e⟩⟩⟩) (fun e0 => ?_)
      obtain ⟨v, v31, rfl⟩ := nI_of e0
      refine w_crI (tH_3 ch_1000) rfl hd e3 ?_
      rw [show (2 : Int32) * nI c = nI (2 * c) from pk_mul 2 _]
      refine w_lt v31 (by omega) (fun hvc => ?_) (fun h9 => w_some ⟨hN, fr_rf, hC, Or.inr ⟨d, A, sg, hd, rfl, hSt, Or.inl ⟨rfl, fun ⟨k, k1, k2⟩ => ?_⟩⟩⟩)
      rotate_left
      · have := nI_inj9 (a := v) (b := k) (by omega) (by omega) k2
        omega
      have hvl : v < A.flatten.length := by omega
      refine w_if (fun e => w_some ⟨hN, fr_rf, hC, Or.inr ⟨d, A, sg, hd, rfl, hSt, Or.inr ⟨v, hvl, rfl, Or.inl ⟨rfl, fun h8 => (h39.mp h8).1 e⟩⟩⟩⟩) (fun f0 => w_if (fun f3 => ?_) (fun e => w_some ⟨hN, fr_rf, hC, Or.inr ⟨d, A, sg, hd, rfl, hSt, Or.inr ⟨v, hvl, rfl, Or.inl ⟨rfl, fun h8 => e (h39.mp h8).2⟩⟩⟩⟩))
      refine w_cs0 (xc_ld hN hd hs hA hpl) ?_
      rintro y3 ⟨hN3, g3, T, hT, hT1, hV, hpm, hTp⟩
      have g3u : fr uP y1 y3 := fr_mono (fun g hg => by unfold cL at hg; unfold uP; omega) g3
      have hC3 : relC y3 St := relC_fr g3 (fun q hq h9 => by unfold cW at hq; unfold cL at h9; omega) hC
      have hlt := lbv_lt hT.2.1 hvl
      have hhf := lbv_hf hT.2.1 hvl
      have hL24 : lb (vAt A v) < 24 := by
        have : lb (vAt A v) < 2 * T.1 := hlt
        omega
      have hx6 := five f0 (Int32.le_trans f3 (by decide))
      refine w_crI (nH_4 nH4) rfl (by omega) (hT.2.2.2.1 v _ (vAt_of hvl)) ?_
      rw [shr1v ⟨lb (vAt A v), hL24⟩, an1_c ⟨lb (vAt A v), hL24⟩]
      have e1 : lb (vAt A v) / 2 = crs A v := hhf.1
      have e2 : lb (vAt A v) % 2 = uns A v := hhf.2
      dsimp only
      rw [e1, e2]
      have hcr : crs A v < 12 := by omega
      have hsg : T.2.2.2 (crs A v) = if sg (crs A v) then -1 else 1 := iso_sg1 hV hpm (vAt_mem hvl)
      have fin : ∀ (r : Int32) (k : Nat), k < 4 → x3 = nI k → r = visR A sg v k → Tt (fun _ _ => some ((0 : Nat), r, y3)) (fun r => gN r.2.2 ∧ fr uP y1 r.2.2 ∧ relC r.2.2 St ∧ (r.1 = 1 ∧ (∀ e, e < 40 → nI d = nI e → St e = none) ∨ ∃ e A sg, e < 40 ∧ nI d = nI e ∧ St e = some (A, sg) ∧ (r.1 = 1 ∧ ¬ in9 (nI v) A.flatten.length ∨ ∃ w, w < A.flatten.length ∧ nI v = nI w ∧ (r.1 = 2 ∧ ¬ in9 x3 4 ∨ r.1 = 0 ∧ ∃ k, k < 4 ∧ x3 = nI k ∧ r.2.1 = visR A sg w k)))) := fun r k k1 k2 k3 => w_some ⟨hN3, g3u, hC3, Or.inr ⟨d, A, sg, hd, rfl, hSt, Or.inr ⟨v, hvl, rfl, Or.inr ⟨rfl, k, k1, k2, k3⟩⟩⟩⟩
      refine w_if (fun e => ?_) (fun e => ?_)
      · have hx3 : x3 = 3 := by
          rcases hx6 with rfl | rfl | rfl | rfl | rfl | rfl
          · exact absurd e (by decide)
          · exact absurd e (by decide)
          · exact absurd e (by decide)
          · rfl
          · exact absurd f3 (by decide)
          · exact absurd f3 (by decide)
        subst hx3
        exact w_crI (nH_3 nH4) rfl hcr (hT.1.2.2.2.2 _) (fin _ 3 (by omega) rfl hsg)
      · refine w_if (fun q => ?_) (fun n0 => w_if (fun q => ?_) (fun n1 => w_if (fun q => ?_) (fun n2 => ?_)))
        · subst q
          exact w_crI (nH_5 nH4) rfl hL24 (hT.2.2.2.2.1 v hvl) (fin _ 0 (by omega) rfl rfl)
        · subst q
          exact fin _ 1 (by omega) rfl rfl
        · subst q
          exact fin _ 2 (by omega) rfl rfl
        · exfalso
          rcases hx6 with h | h | h | h | h | h
          · exact n0 h
          · exact n1 h
          · exact n2 h
          · rw [h] at e
            exact e (by decide)
          · rw [h] at f3
            exact absurd f3 (by decide)
          · rw [h] at f3
            exact absurd f3 (by decide)
  · rintro a y1 ha ⟨h1, rfl⟩
    rcases h1 with h1 | h1
    · exact w_some ⟨hN, fr_rf, hC, Or.inl h1⟩
    · exact absurd h1.1 ha
end XVC
end
section
/-! 99zzzzzzzzzp.xlnk -/
/-! exact calls: linking, of both -/
def sL (G : vT → Int32) (L : List vT) : Int32 := L.foldl (fun s p => s + G p) 0
theorem sL_s {G : vT → Int32} {L : List vT} {p : vT} : sL G (L ++ [p]) = sL G L + G p := by
  unfold sL
  rw [List.foldl_append]
  rfl
theorem sL_pm {G : vT → Int32} {L L' : List vT} (h : L.Perm L') : sL G L = sL G L' := by
  unfold sL
  refine h.foldl_eq' (fun x _ y _ z => ?_) 0
  rw [Int32.add_assoc, Int32.add_comm (G x), ← Int32.add_assoc]
def pairs (c : Nat) : List vT := (List.range c).flatMap (fun x => [(x, 0), (x, 1)])
theorem pairs_s (c : Nat) : pairs (c + 1) = pairs c ++ [(c, 0), (c, 1)] := by
  unfold pairs
  rw [List.range_succ, List.flatMap_append]
  rfl
theorem pairs_mem {c : Nat} {p : vT} : p ∈ pairs c ↔ p.1 < c ∧ p.2 < 2 := by
  unfold pairs
  rw [List.mem_flatMap]
  constructor
  · rintro ⟨x, hx, hp⟩
    have hx := List.mem_range.mp hx
    rcases List.mem_cons.mp hp with rfl | hp
    · exact ⟨hx, by show 0 < 2; omega⟩
    · rw [List.mem_singleton.mp hp]
      exact ⟨hx, by show 1 < 2; omega⟩
  · rintro ⟨h1, h2⟩
    refine ⟨p.1, List.mem_range.mpr h1, ?_⟩
    rcases (show p.2 = 0 ∨ p.2 = 1 by omega) with e | e
    · exact List.mem_cons.mpr (Or.inl (Prod.ext rfl e))
    · exact List.mem_cons.mpr (Or.inr (List.mem_singleton.mpr (Prod.ext rfl e)))
theorem pairs_nd : ∀ c, (pairs c).Nodup
  | 0 => List.nodup_nil
  | c + 1 => by
    rw [pairs_s]
    refine List.nodup_append.mpr ⟨pairs_nd c, ?_, fun p hp q hq e => ?_⟩
    · refine List.nodup_cons.mpr ⟨fun h => ?_, List.nodup_cons.mpr ⟨List.not_mem_nil, List.nodup_nil⟩⟩
      have := List.mem_singleton.mp h
      exact absurd (Prod.mk.inj this).2 (by decide)
    · have h1 := (pairs_mem.mp hp).1
      have h2 : q.1 = c := by
        rcases List.mem_cons.mp hq with rfl | hq
        · rfl
        · rw [List.mem_singleton.mp hq]
      rw [e, h2] at h1
      omega
theorem nd_perm {L L' : List vT} (h1 : L.Nodup) (h2 : L'.Nodup) (h : ∀ p, p ∈ L ↔ p ∈ L') : L.Perm L' := by
  refine List.perm_iff_count.mpr (fun p => ?_)
  have a1 := List.nodup_iff_count.mp h1 p
  have a2 := List.nodup_iff_count.mp h2 p
  by_cases e : p ∈ L
  · have b1 := List.count_pos_iff.mpr e
    have b2 := List.count_pos_iff.mpr ((h p).mp e)
    omega
  · rw [List.count_eq_zero.mpr e, List.count_eq_zero.mpr (fun h9 => e ((h p).mpr h9))]
theorem okF_pairs {F : List vT} {c : Nat} (h : okF F c) : F.Perm (pairs c) := nd_perm h.1 (pairs_nd c) (fun p => by rw [h.2, pairs_mem])
theorem vAt_mtf {A : rn_L} (hF : wkF A.flatten) {v : Nat} (hv : v < A.flatten.length) : vAt A (mtf A v) = ((vAt A v).1, 1 - (vAt A v).2) := by
  obtain ⟨v0, v1, a1, b1, a2, b2, m0, m1, all⟩ := vis_two hF hv
  rcases all v hv rfl with e | e
  · rw [e, m0, b2, a2]
    rfl
  · rw [e, m1, a2, b2]
    rfl
/-- what a visit adds to the linking number of i and j -/
def lkG (A : rn_L) (sg : Nat → Bool) (i j : Nat) (p : vT) : Int32 := if cidx A p = i ∧ cidx A (p.1, 1 - p.2) = j then (if sg p.1 then -1 else 1) else 0
def lkR (A : rn_L) (sg : Nat → Bool) (i j : Nat) : Int32 := sL (lkG A sg i j) A.flatten / 2
section XL
variable {X : (Nat → Nat → Int32) → Prop} {z : ow_MS} {St : plT}
theorem xq_linking {d a b : Int32} (h : gI X z) (hR : relR z St) : Te (fun K => qe_X13_linking K d a b z) (fun r => rFl X z 1 r ∧ (∀ e, e < 40 → d = nI e → St e = none) ∨ ∃ e A sg, e < 40 ∧ d = nI e ∧ St e = some (A, sg) ∧ (rFl X z 1 r ∧ ¬ (in9 a A.length ∧ in9 b A.length) ∨ ∃ i j, i < A.length ∧ j < A.length ∧ a = nI i ∧ b = nI j ∧ (rFl X z 2 r ∧ i = j ∨ rOk X z r ∧ i ≠ j ∧ r.1 = lkR A sg i j))) := by
  let Q : Int32 × ow_MS → Prop := fun r => rFl X z 1 r ∧ (∀ e, e < 40 → d = nI e → St e = none) ∨ ∃ e A sg, e < 40 ∧ d = nI e ∧ St e = some (A, sg) ∧ (rFl X z 1 r ∧ ¬ (in9 a A.length ∧ in9 b A.length) ∨ ∃ i j, i < A.length ∧ j < A.length ∧ a = nI i ∧ b = nI j ∧ (rFl X z 2 r ∧ i = j ∨ rOk X z r ∧ i ≠ j ∧ r.1 = lkR A sg i j))
  have h1 := gI_1 (c := 0) h
  have hR1 := relR_1 (c := 0) hR
  refine e_X13_linking ?_
  refine u_X13_linking_0 ?_; unfold qm_X13_linking_0
  refine w_wrF (w_hasX hR1 (fun h0 => w_ifT rfl (w_mono (w_failX h1 fr_1) (fun r hr => Or.inl ⟨hr, h0⟩))) (fun e A sg he hx hs hv hne => w_ifF (by decide) ?_))
  subst hx
  refine w_cs0 (to_open pn1 he hv) (fun z2 ⟨o1, f1⟩ => ?_)
  have h2 : gI X z2 := gI_net pn1 f1 (fun g hg => by omega) h1
  have hl := o1.len
  have hC := o1.2.2.2
  have hd := wkF_ok o1.wk
  have f02 : fr rPs z z2 := fr_tr fr_1 (fr_mono (fun g hg => Or.inr (by unfold rSc; omega)) f1)
  have z21 : z2.1 1 = 0 := by rw [(f1 1 (by omega)).1]; exact po_usF_at
  have fin : ∀ {r}, (rFl X z 1 r ∧ ¬ (in9 a A.length ∧ in9 b A.length) ∨ ∃ i j, i < A.length ∧ j < A.length ∧ a = nI i ∧ b = nI j ∧ (rFl X z 2 r ∧ i = j ∨ rOk X z r ∧ i ≠ j ∧ r.1 = lkR A sg i j)) → Q r := fun hr => Or.inr ⟨e, A, sg, he, rfl, hs, hr⟩
  have c1 : ¬ (in9 a A.length ∧ in9 b A.length) → Tt (fun K k => q_X13_linking K k 1 (nI e) a b 0 0 z2) Q := by
    intro hno
    refine u_X13_linking_1 ?_; unfold qm_X13_linking_1
    exact w_mono (w_failX (k := 1) h2 f02) (fun r hr => fin (Or.inl ⟨hr, hno⟩))
  have ha9 := in9_iff (x := a) (n := A.length) (by omega)
  have hb9 := in9_iff (x := b) (n := A.length) (by omega)
  have c2 : ∀ i j, i < A.length → j < A.length → a = nI i → b = nI j → i ≠ j → ∀ (k v : Nat), v + k = A.flatten.length → Tt (fun K i9 => q_X13_linking K i9 2 (nI e) a b (sL (lkG A sg i j) (A.flatten.take v)) (nI v) z2) Q := by
    intro i j hi hj ea eb hij k
    induction k with
    | zero =>
      intro v hv9
      have hve : v = A.flatten.length := by omega
      rw [hve, List.take_length]
      refine u_X13_linking_2 ?_; unfold qm_X13_linking_2
      exact w_rdF o1.1.V (w_leT (by omega) (by omega) (w_nzI (by decide) (w_some (fin (Or.inr ⟨i, j, hi, hj, ea, eb, Or.inr ⟨⟨h2, z21, f02⟩, hij, rfl⟩⟩)))))
    | succ k ih =>
      intro v hv9
      have hvl : v < A.flatten.length := by omega
      have hml := mtf_lt hd hvl
      obtain ⟨x1, x2, x3⟩ := o1.cx hvl
      have i1 := rc_idx o1.wk.1 hvl
      have i2 := rc_idx o1.wk.1 hml
      rw [vAt_mtf o1.wk hvl] at i2
      have r1 := (rc_mem hvl).1
      have r2 := (rc_mem hml).1
      have c3 : ∀ y : Int32, y = sL (lkG A sg i j) (A.flatten.take (v + 1)) → Tt (fun K i9 => q_X13_linking K i9 3 (nI e) a b y (nI v) z2) Q := by
        intro y hy
        refine u_X13_linking_3 ?_; unfold qm_X13_linking_3
        rw [nI_1, hy]
        exact ih (v + 1) (by omega)
      have es : sL (lkG A sg i j) (A.flatten.take (v + 1)) = sL (lkG A sg i j) (A.flatten.take v) + lkG A sg i j (vAt A v) := by
        rw [take_s (vAt_of hvl), sL_s]
      have gv : lkG A sg i j (vAt A v) = if rn_c A v = i ∧ rn_c A (mtf A v) = j then (if sg (crs A v) then -1 else 1) else 0 := by
        unfold lkG
        rw [i1, i2]
        rfl
      have no : ¬ (rn_c A v = i ∧ rn_c A (mtf A v) = j) → sL (lkG A sg i j) (A.flatten.take v) = sL (lkG A sg i j) (A.flatten.take (v + 1)) := fun hn => by
        rw [es, gv, if_neg hn, Int32.add_zero]
      refine u_X13_linking_2 ?_; unfold qm_X13_linking_2
      refine w_rdF o1.1.V (w_leF (by omega) hvl (w_rdI (pl8 pn1) rfl (by omega) (lk_c o1.1 hvl) (w_if (fun q1 => w_rdI (pl7 pn1) rfl (by omega) (lk_m hd o1.1 hvl) (w_rdI (pl8 pn1) rfl (by omega) (lk_c o1.1 hml) (w_if (fun q2 => w_rdI (pl4 pn1) rfl (by omega) (lk_cu o1.1 hvl).1 (w_rdI (pl6 pn1) rfl (by omega) (o1.2.1 _ (vAt_mem hvl)) (c3 _ ?_))) (fun q2 => c3 _ (no (fun h9 => q2 ?_)))))) (fun q1 => c3 _ (no (fun h9 => q1 ?_))))))
      · rw [ea] at q1
        rw [eb] at q2
        have q1 := nI_inj9 (by omega) (by omega) q1
        have q2 := nI_inj9 (by omega) (by omega) q2
        rw [es, gv]
        exact congrArg (fun t => sL (lkG A sg i j) (A.flatten.take v) + t) (if_pos ⟨q1, q2⟩).symm
      · rw [h9.2, eb]
      · rw [h9.1, ea]
  refine w_if (fun h9 => c1 (fun h8 => (ha9.mp h8.1).1 h9)) (fun a0 => w_rdF (lk_C o1.1) (w_if (fun h9 => c1 (fun h8 => absurd (ha9.mp h8.1).2 (Int32.not_lt.mpr h9))) (fun a1 => w_if (fun h9 => c1 (fun h8 => (hb9.mp h8.2).1 h9)) (fun b0 => w_rdF (lk_C o1.1) (w_if (fun b1 => ?_) (fun h9 => c1 (fun h8 => h9 (hb9.mp h8.2).2)))))))
  obtain ⟨i, hi, ea⟩ := ha9.mpr ⟨a0, Int32.not_le.mp a1⟩
  obtain ⟨j, hj, eb⟩ := hb9.mpr ⟨b0, b1⟩
  refine w_if (fun h9 => w_mono (w_failX (k := 2) h2 f02) (fun r hr => fin (Or.inr ⟨i, j, hi, hj, ea, eb, Or.inl ⟨hr, ?_⟩⟩))) (fun h9 => c2 i j hi hj ea eb (fun e9 => h9 (by rw [ea, eb, e9])) _ 0 (Nat.zero_add _))
  rw [ea, eb] at h9
  exact nI_inj9 (by omega) (by omega) h9
end XL
theorem lkC_eq {A : rn_L} {sg : Nat → Bool} {F G : Nat → Int32} {c i j : Nat} (hA : okF A.flatten c) (h39 : A.length ≤ 39) (hi : i < A.length) (hj : j < A.length) (hij : i ≠ j) (hF : ∀ v, v < A.flatten.length → F (lb (vAt A v)) = nI (rn_c A v)) (hG : ∀ x, x < c → G x = if sg x then -1 else 1) : lkC F G (nI i) (nI j) c / 2 = lkR A sg i j := by
  have hFp : ∀ p, p ∈ A.flatten → F (lb p) = nI (cidx A p) ∧ cidx A p < A.length := fun p hp => by
    obtain ⟨v, v1, rfl⟩ := mem_vAt hp
    have := rc_idx hA.1 v1
    rw [this]
    exact ⟨hF v v1, (rc_mem v1).1⟩
  have key : ∀ n, n ≤ c → lkC F G (nI i) (nI j) n = sL (lkG A sg i j) (pairs n) := by
    intro n
    induction n with
    | zero => exact fun _ => rfl
    | succ n ih =>
      intro hn
      obtain ⟨a1, a2⟩ := hFp (n, 0) ((hA.2 _).mpr ⟨by show n < c; omega, by show 0 < 2; omega⟩)
      obtain ⟨b1, b2⟩ := hFp (n, 1) ((hA.2 _).mpr ⟨by show n < c; omega, by show 1 < 2; omega⟩)
      have a1 : F (2 * n) = nI (cidx A (n, 0)) := a1
      have b1 : F (2 * n + 1) = nI (cidx A (n, 1)) := b1
      have es : sL (lkG A sg i j) (pairs (n + 1)) = sL (lkG A sg i j) (pairs n) + lkG A sg i j (n, 0) + lkG A sg i j (n, 1) := by
        rw [pairs_s, show pairs n ++ [(n, 0), (n, 1)] = (pairs n ++ [(n, 0)]) ++ [(n, 1)] by simp, sL_s, sL_s]
      have g0 : lkG A sg i j (n, 0) = if cidx A (n, 0) = i ∧ cidx A (n, 1) = j then (if sg n then -1 else 1) else 0 := rfl
      have g1 : lkG A sg i j (n, 1) = if cidx A (n, 1) = i ∧ cidx A (n, 0) = j then (if sg n then -1 else 1) else 0 := rfl
      rw [es, g0, g1, ← ih (by omega)]
      show (if (F (2 * n) = nI i ∧ F (2 * n + 1) = nI j) ∨ (F (2 * n) = nI j ∧ F (2 * n + 1) = nI i) then lkC F G (nI i) (nI j) n + G n else lkC F G (nI i) (nI j) n) = _
      rw [a1, b1, hG n (by omega)]
      have q : ∀ {s t : Nat}, s < A.length → t < A.length → (nI s = nI t ↔ s = t) := fun hs ht => ⟨fun e => nI_inj9 (by omega) (by omega) e, fun e => by rw [e]⟩
      simp only [q a2 hi, q b2 hj, q a2 hj, q b2 hi]
      generalize (if sg n = true then (-1 : Int32) else 1) = s
      by_cases e1 : cidx A (n, 0) = i ∧ cidx A (n, 1) = j
      · rw [if_pos (Or.inl e1), if_pos e1, if_neg (fun h9 => hij (e1.1.symm.trans h9.2)), Int32.add_zero]
      · by_cases e2 : cidx A (n, 1) = i ∧ cidx A (n, 0) = j
        · rw [if_pos (Or.inr ⟨e2.2, e2.1⟩), if_neg e1, if_pos e2, Int32.add_zero]
        · rw [if_neg (fun h9 => h9.elim e1 (fun h8 => e2 ⟨h8.2, h8.1⟩)), if_neg e1, if_neg e2, Int32.add_zero, Int32.add_zero]
  unfold lkR
  rw [key c (Nat.le_refl _), sL_pm (okF_pairs hA)]
section XLC
variable {vl : Nat → Nat} {y : ow_MS} {St : plT} {x a b : Int32}
theorem xc_linking (hN : gN y) (hC : relC y St) (hS : okS St) : Te (fun K => ce_X11_linking vl K 0 x a b y) (fun r => gN r.2.2 ∧ fr uP y r.2.2 ∧ relC r.2.2 St ∧ (r.1 = 1 ∧ (∀ e, e < 40 → x = nI e → St e = none) ∨ ∃ e A sg, e < 40 ∧ x = nI e ∧ St e = some (A, sg) ∧ (r.1 = 1 ∧ ¬ (in9 a A.length ∧ in9 b A.length) ∨ ∃ i j, i < A.length ∧ j < A.length ∧ a = nI i ∧ b = nI j ∧ (r.1 = 2 ∧ i = j ∨ r.1 = 0 ∧ i ≠ j ∧ r.2.1 = lkR A sg i j)))) := by
  let Q0 : ow_MS → Nat × Int32 × ow_MS → Prop := fun y r => gN r.2.2 ∧ fr uP y r.2.2 ∧ relC r.2.2 St ∧ (r.1 = 1 ∧ (∀ e, e < 40 → x = nI e → St e = none) ∨ ∃ e A sg, e < 40 ∧ x = nI e ∧ St e = some (A, sg) ∧ (r.1 = 1 ∧ ¬ (in9 a A.length ∧ in9 b A.length) ∨ ∃ i j, i < A.length ∧ j < A.length ∧ a = nI i ∧ b = nI j ∧ (r.1 = 2 ∧ i = j ∨ r.1 = 0 ∧ i ≠ j ∧ r.2.1 = lkR A sg i j)))
  refine e_X11_linking ?_
  refine u_X11_linking_0 ?_; unfold cm_X11_linking_0
  refine w_tc0 (xc_need hN.1 hC hS) ?_ ?_
  · rintro y1 ⟨h1, rfl⟩
    rcases h1 with h1 | ⟨-, d, A, sg, c, hd, ex, hSt, hs, hA, hne, hpl⟩
    · exact absurd (show (0 : Nat) = 1 from h1.1) (by decide)
    · rw [ex]
      refine w_cs0 (xc_ld hN hd hs hA hpl) ?_
      rw [← ex]
      rintro y3 ⟨hN3, f3, T, hT, hT1, hV, hpm, hTp⟩
      have hC3 : relC y3 St := relC_fr f3 (fun q hq h9 => by unfold cW at hq; unfold cL at h9; omega) hC
      have hG : ∀ x, x < c → T.2.2.2 x = if sg x then -1 else 1 := fun x hx => iso_sg1 (p := (x, 0)) hV hpm ((hA.1.2 _).mpr ⟨hx, by show 0 < 2; omega⟩)
      have f3u : fr uP y1 y3 := fr_mono (fun g hg => by unfold cL at hg; unfold uP; omega) f3
      have hv := hT.2.2.1
      have h6 := hA.2.2.2.2
      have h12 := hv.2.1
      refine w_tc0 (tc_needComponent hT.2.2.2.2.2 (by omega)) ?_ ?_
      · rintro y4 ⟨h4, rfl⟩
        rcases h4 with ⟨-, i, hi, ea⟩ | h4
        · refine w_tc0 (tc_needComponent hT.2.2.2.2.2 (by omega)) ?_ ?_
          · rintro y5 ⟨h5, rfl⟩
            rcases h5 with ⟨-, j, hj, eb⟩ | h5
            · refine w_if (fun e => w_some ⟨hN3, f3u, hC3, Or.inr ⟨d, A, sg, hd, ex, hSt, Or.inr ⟨i, j, hi, hj, ea, eb, Or.inl ⟨rfl, ?_⟩⟩⟩⟩) (fun e => ?_)
              · rw [ea, eb] at e
                exact nI_inj9 (by omega) (by omega) e
              · have hij : i ≠ j := fun h9 => e (by rw [ea, eb, h9])
                have c1 : ∀ (k n : Nat), n + k = T.1 → Tt (fun K t => c_X11_linking vl K t 1 x a b (lkC (y5.2.1 4005) T.2.2.2 a b n) (nI n) 0 0 0 y5) (Q0 y1) := by
                  intro k
                  induction k with
                  | zero =>
                    intro n hn
                    have en : n = T.1 := by omega
                    subst en
                    refine u_X11_linking_1 ?_; unfold cm_X11_linking_1
                    exact w_rdF hT.1.1 (w_leT (by omega) (by omega) (w_nzI (by decide) (w_some ⟨hN3, f3u, hC3, Or.inr ⟨d, A, sg, hd, ex, hSt, Or.inr ⟨i, j, hi, hj, ea, eb, Or.inr ⟨rfl, hij, by rw [ea, eb, hT1]; exact lkC_eq hA.1 (by omega) hi hj hij hT.2.2.2.2.1 hG⟩⟩⟩⟩)))
                  | succ k ih =>
                    intro n hn
                    have c4 : ∀ (s v9 v10 : Int32), s = lkC (y5.2.1 4005) T.2.2.2 a b (n + 1) → Tt (fun K t => c_X11_linking vl K t 4 x a b s (nI n) v9 v10 0 y5) (Q0 y1) := by
                      intro s v9 v10 es
                      rw [es]
                      refine u_X11_linking_4 ?_; unfold cm_X11_linking_4
                      rw [nI_1]
                      exact ih (n + 1) (by omega)
                    have c3 : ∀ (v9 v10 : Int32), ((y5.2.1 4005 (2 * n) = a ∧ y5.2.1 4005 (2 * n + 1) = b) ∨ (y5.2.1 4005 (2 * n) = b ∧ y5.2.1 4005 (2 * n + 1) = a)) → Tt (fun K t => c_X11_linking vl K t 3 x a b (lkC (y5.2.1 4005) T.2.2.2 a b n) (nI n) v9 v10 0 y5) (Q0 y1) := by
                      intro v9 v10 hc
                      refine u_X11_linking_3 ?_; unfold cm_X11_linking_3
                      refine w_crI (nH_3 nH4) rfl (show n < 12 by omega) (hT.1.2.2.2.2 n) (c4 _ _ _ ?_)
                      show _ = if _ then _ else _
                      rw [if_pos hc]
                    have c2 : ¬ (y5.2.1 4005 (2 * n) = a ∧ y5.2.1 4005 (2 * n + 1) = b) → Tt (fun K t => c_X11_linking vl K t 2 x a b (lkC (y5.2.1 4005) T.2.2.2 a b n) (nI n) (y5.2.1 4005 (2 * n)) (y5.2.1 4005 (2 * n + 1)) 0 y5) (Q0 y1) := by
                      intro hc
                      have no : ¬ (y5.2.1 4005 (2 * n) = b ∧ y5.2.1 4005 (2 * n + 1) = a) → lkC (y5.2.1 4005) T.2.2.2 a b n = lkC (y5.2.1 4005) T.2.2.2 a b (n + 1) := by
                        intro hc2
                        show _ = if _ then _ else _
                        rw [if_neg (fun h9 => h9.elim hc hc2)]
                      refine u_X11_linking_2 ?_; unfold cm_X11_linking_2
                      refine w_if (fun q1 => w_if (fun q2 => c3 _ _ (Or.inr ⟨q1, q2⟩)) (fun q2 => c4 _ _ _ (no (fun h9 => q2 h9.2)))) (fun q1 => c4 _ _ _ (no (fun h9 => q1 h9.1)))
                    refine u_X11_linking_1 ?_; unfold cm_X11_linking_1
                    rw [show (2 : Int32) * nI n = nI (2 * n) from pk_mul 2 _, nI_1]
                    refine w_rdF hT.1.1 (w_leF (by omega) (by omega) (w_crI (nH_5 nH4) rfl (show 2 * n < 24 by omega) rfl (w_crI (nH_5 nH4) rfl (show 2 * n + 1 < 24 by omega) rfl ?_)))
                    refine w_if (fun q1 => w_if (fun q2 => c3 _ _ (Or.inl ⟨q1, q2⟩)) (fun q2 => c2 (fun h9 => q2 h9.2))) (fun q1 => c2 (fun h9 => q1 h9.1))
                exact c1 T.1 0 (by omega)
            · exact absurd (show (0 : Nat) = 1 from h5.1) (by decide)
          · rintro q y5 hq ⟨h5, rfl⟩
            rcases h5 with h5 | h5
            · exact absurd h5.1 hq
            · have e : q = 1 := h5.1
              rw [e]
              exact w_some ⟨hN3, f3u, hC3, Or.inr ⟨d, A, sg, hd, ex, hSt, Or.inl ⟨rfl, fun ⟨_, k, k1, k2⟩ => h5.2 k k1 k2⟩⟩⟩
        · exact absurd (show (0 : Nat) = 1 from h4.1) (by decide)
      · rintro q y4 hq ⟨h4, rfl⟩
        rcases h4 with h4 | h4
        · exact absurd h4.1 hq
        · have e : q = 1 := h4.1
          rw [e]
          exact w_some ⟨hN3, f3u, hC3, Or.inr ⟨d, A, sg, hd, ex, hSt, Or.inl ⟨rfl, fun ⟨⟨k, k1, k2⟩, _⟩ => h4.2 k k1 k2⟩⟩⟩
  · rintro q y1 hq ⟨h1, rfl⟩
    rcases h1 with h1 | h1
    · exact w_some ⟨hN, fr_rf, hC, Or.inl h1⟩
    · exact absurd h1.1 hq
end XLC
end
section
/-! 99zzzzzzzzzq.xalk -/
/-! exact calls: alike, of both -/
theorem slC_uni {y : ow_MS} {g s : Nat} {C D : cdT} (h1 : cOK C) (h2 : cOK D) (c1 : slC y g s C) (d1 : slC y g s D) : C = D := by
  have e1 : C.1 = D.1 := nI_inj9 (by have := h1.1; omega) (by have := h2.1; omega) (c1.1.symm.trans d1.1)
  have e2 : C.2.length = D.2.length := nI_inj9 (by have := h1.2.1; omega) (by have := h2.2.1; omega) (c1.2.1.symm.trans d1.2.1)
  refine Prod.ext e1 (List.ext_getElem? (fun i => ?_))
  by_cases hi : i < C.2.length
  · have hj : i < D.2.length := by omega
    have a1 := c1.2.2 i _ (List.getElem?_eq_getElem hi)
    have a2 := d1.2.2 i _ (List.getElem?_eq_getElem hj)
    have b1 := h1.2.2 _ (List.getElem_mem hi)
    have b2 := h2.2.2 _ (List.getElem_mem hj)
    rw [List.getElem?_eq_getElem hi, List.getElem?_eq_getElem hj, nI_inj9 (by omega) (by omega) (a1.symm.trans a2)]
  · rw [List.getElem?_eq_none (by omega), List.getElem?_eq_none (by omega)]
theorem ucd_cg {sg sg' : Nat → Bool} : ∀ (R : rn_L) (b : Nat) (D : rn_L), (∀ p, p ∈ R.flatten → sg p.1 = sg' p.1) → ucd sg b D R = ucd sg' b D R
  | [], _, _, _ => rfl
  | L :: R, b, D, h => by
    show L.map (clc sg b) ++ 0 :: ucd sg (nxb b (D ++ [L])) (D ++ [L]) R = L.map (clc sg' b) ++ 0 :: ucd sg' (nxb b (D ++ [L])) (D ++ [L]) R
    rw [ucd_cg R _ _ (fun p hp => h p (by rw [List.flatten_cons]; exact List.mem_append_right _ hp)), List.map_congr_left (g := clc sg' b) (fun p hp => ?_)]
    unfold clc
    rw [h p (by rw [List.flatten_cons]; exact List.mem_append_left _ hp)]
theorem tk_cg {sg sg' : Nat → Bool} (A : rn_L) (h : ∀ p, p ∈ A.flatten → sg p.1 = sg' p.1) : tk sg A = tk sg' A := by
  unfold tk
  congr 1
  refine List.map_congr_left (fun L hL => ?_)
  unfold tkc
  congr 1
  refine List.map_congr_left (fun p hp => ?_)
  unfold tkv
  rw [h p (List.mem_flatten.mpr ⟨L, hL, hp⟩)]
theorem clC_tk {sg sg' : Nat → Bool} {A B : rn_L} {c c' : Nat} (hA : okL A c) (hB : okL B c') : clC sg A = clC sg' B ↔ tk sg A = tk sg' B := by
  constructor
  · intro e
    obtain ⟨q1, q2, q3⟩ := clC_inj hA hB e
    subst q1
    exact tk_cg A (fun p hp => q3 p.1 ((hA.1.2 p).mp hp).1)
  · intro e
    obtain ⟨q1, q2⟩ := tk_inj A B (fun p hp => ((hA.1.2 p).mp hp).2) (fun p hp => ((hB.1.2 p).mp hp).2) e
    subst q1
    unfold clC
    rw [ucd_cg A 0 [] q2]
/-- both are there, and the same -/
def alG (St : plT) (x x' : Int32) : Prop := ∃ d A sg e B sg', d < 40 ∧ x = nI d ∧ St d = some (A, sg) ∧ e < 40 ∧ x' = nI e ∧ St e = some (B, sg') ∧ tk sg A = tk sg' B
section XAL
variable {X : (Nat → Nat → Int32) → Prop} {z : ow_MS} {St : plT}
theorem xq_alike {d e : Int32} (h : gI X z) (hR : relR z St) : Te (fun K => qe_X13_alike K d e z) (fun r => rOk X z r ∧ (r.1 = 1 ∧ alG St d e ∨ r.1 = 0 ∧ ¬ alG St d e)) := by
  have h1 := gI_1 (c := 0) h
  have hR1 := relR_1 (c := 0) hR
  have ok : rOk X z (0, usF z 1 0) := ⟨h1, po_usF_at, fr_1⟩
  have ok1 : rOk X z (1, usF z 1 0) := ⟨h1, po_usF_at, fr_1⟩
  refine e_X13_alike ?_; unfold qm_X13_alike_0
  refine w_wrF (w_hasX hR1 (fun h0 => w_ifT rfl (w_okZ (Or.inl rfl) (w_some ⟨ok, Or.inr ⟨rfl, fun ⟨d', A, sg, _, _, _, k4, k5, k6, _⟩ => by rw [h0 d' k4 k5] at k6; cases k6⟩⟩))) (fun d9 A sg hd hx hs hv hne => w_ifF (by decide) (w_hasX hR1 (fun h0 => w_ifT rfl (w_okZ (Or.inl rfl) (w_some ⟨ok, Or.inr ⟨rfl, fun ⟨_, _, _, e', _, _, _, _, _, k4, k5, k6, _⟩ => by rw [h0 e' k4 k5] at k6; cases k6⟩⟩))) (fun e9 B sg2 he hy hs2 hw hne2 => w_ifF (by decide) ?_))))
  have l1 := hv.1.1
  have l2 := hw.1.1
  have s1 := tr_same ml12 ml12 (by omega) (by omega) (by omega) (by omega) hv.1 hw.1
  have e1 : (32 : Int32) * d = nI (32 * d9) := by rw [hx]; exact pk_mul 32 d9
  have e2 : (32 : Int32) * e = nI (32 * e9) := by rw [hy]; exact pk_mul 32 e9
  rw [e1, e2]
  refine w_cs1 s1 (fun a z2 e3 => ?_)
  cases e3
  by_cases ek : tk sg A = tk sg2 B
  · rw [decide_eq_true ek]
    exact w_ifF (by decide) (w_okZ (Or.inr rfl) (w_some ⟨ok1, Or.inl ⟨rfl, d9, A, sg, e9, B, sg2, hd, hx, hs, he, hy, hs2, ek⟩⟩))
  · rw [decide_eq_false ek]
    refine w_ifT rfl (w_okZ (Or.inl rfl) (w_some ⟨ok, Or.inr ⟨rfl, fun ⟨d', A', s1, e', B', s2, k1, k2, k3, k4, k5, k6, k7⟩ => ek ?_⟩⟩))
    obtain ⟨q1, q2⟩ := pl_uni k1 hd k2 hx k3 hs
    obtain ⟨q3, q4⟩ := pl_uni k4 he k5 hy k6 hs2
    rw [q1, q2, q3, q4] at k7
    exact k7
end XAL
section XALC
variable {vl : Nat → Nat} {y : ow_MS} {St : plT} {x x' : Int32}
theorem xc_alike (hN : dgC y) (hC : relC y St) (hS : okS St) : Te (fun K => ce_X11_alike vl K 0 x x' y) (fun r => r.2 = y ∧ (r.1 = 1 ∧ alG St x x' ∨ r.1 = 0 ∧ ¬ alG St x x')) := by
  have hy := dgC_E hN
  have got : ∀ {d : Nat} {C : cdT}, d < 40 → slC y 1000 d C → cOK C → 0 < C.2.length → ∃ A sg c, St d = some (A, sg) ∧ okL A c ∧ C = clC sg A := fun {d C} hd c1 c2 c3 => by
    cases e : St d with
    | none =>
      have h9 := (hC d hd).1 e
      have h8 : y.2.1 1002 d = nI C.2.length := c1.2.1
      rw [h8] at h9
      have := nI_inj9 (a := C.2.length) (b := 0) (by have := c2.2.1; omega) (by omega) h9
      omega
    | some P =>
      obtain ⟨k1, k2, c', k3⟩ := hS d P.1 P.2 hd e
      exact ⟨P.1, P.2, c', rfl, k3, slC_uni c2 (okL_c k3).2 c1 ((hC d hd).2 P.1 P.2 e)⟩
  refine e_X11_alike ?_; unfold cm_X11_alike_0
  refine w_cs1 (tc_hasDiagram hy) ?_
  rintro v y1 ⟨hv, e2⟩
  dsimp only at hv e2
  subst e2
  rcases hv with ⟨rfl, h1⟩ | ⟨rfl, h1⟩
  · refine w_ifF (by decide) (w_cs1 (tc_hasDiagram hy) ?_)
    rintro v y2 ⟨hv, e2⟩
    dsimp only at hv e2
    subst e2
    rcases hv with ⟨rfl, h2⟩ | ⟨rfl, h2⟩
    · obtain ⟨d, C, hd, rfl, c1, c2, c3⟩ := h1
      obtain ⟨e, D, he, rfl, d1, d2, d3⟩ := h2
      have hcb := cmpC_b c2 d2
      refine w_ifF (by decide) (w_cs1 (tc_compare ch_1000 ch_1000 hd he c1 d1 c2 d2) ?_)
      rintro v y3 ⟨hv, e2⟩
      dsimp only at hv e2
      subst e2
      subst hv
      refine w_if (fun e0 => w_okZ (Or.inr rfl) (w_some ⟨rfl, Or.inl ⟨rfl, ?_⟩⟩)) (fun e0 => w_okZ (Or.inl rfl) (w_some ⟨rfl, Or.inr ⟨rfl, fun hal => ?_⟩⟩))
      · have z0 := (iI_eq (by omega) (by omega) (by omega) (by omega)).mp (e0.trans (show (0 : Int32) = iI 0 from rfl))
        have eC := cmpC_0 z0
        obtain ⟨A, sg, cA, a1, a2, a3⟩ := got hd c1 c2 c3
        obtain ⟨B, sg', cB, b1, b2, b3⟩ := got he d1 d2 d3
        rw [a3, b3] at eC
        exact ⟨d, A, sg, e, B, sg', hd, rfl, a1, he, rfl, b1, (clC_tk a2 b2).mp eC⟩
      · have eC : C = D := by
          obtain ⟨A, sg, cA, a1, a2, a3⟩ := got hd c1 c2 c3
          obtain ⟨B, sg', cB, b1, b2, b3⟩ := got he d1 d2 d3
          obtain ⟨d', A', s1, e', B', s2, k1, k2, k3, k4, k5, k6, k7⟩ := hal
          obtain ⟨q1, q2⟩ := pl_uni k1 hd k2 rfl k3 a1
          obtain ⟨q3, q4⟩ := pl_uni k4 he k5 rfl k6 b1
          rw [q1, q2, q3, q4] at k7
          rw [a3, b3]
          exact (clC_tk a2 b2).mpr k7
        subst eC
        refine e0 ?_
        have aux : ∀ L : List Nat, lexD L L = 0 := by
          intro L
          induction L with
          | nil => rfl
          | cons a L ih =>
            show (if a = a then lexD L L else (a : Int) - a) = 0
            rw [if_pos rfl]
            exact ih
        have : cmpC C C = 0 := by
          unfold cmpC
          rw [if_pos rfl]
          exact aux _
        rw [this]
        rfl
    · exact w_ifT rfl (w_okZ (Or.inl rfl) (w_some ⟨rfl, Or.inr ⟨rfl, fun ⟨_, _, _, e, B, sg', _, _, _, k4, k5, k6, _⟩ => by rw [(relC_len hC hS k4).mp (h2 e k4 k5)] at k6; cases k6⟩⟩))
  · exact w_ifT rfl (w_okZ (Or.inl rfl) (w_some ⟨rfl, Or.inr ⟨rfl, fun ⟨d, A, sg, _, _, _, k4, k5, k6, _⟩ => by rw [(relC_len hC hS k4).mp (h1 d k4 k5)] at k6; cases k6⟩⟩))
end XALC
end
