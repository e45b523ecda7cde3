/-! public methods of the reference: mirror .. join -/
def flp (b : Nat → Bool) (p : Nat × Nat) : Nat × Nat := if b p.1 then (p.1, 1 - p.2) else p
theorem flp_1 {b : Nat → Bool} {p : Nat × Nat} : (flp b p).1 = p.1 := by
  unfold flp
  by_cases h : b p.1 = true
  · rw [if_pos h]
  · rw [if_neg h]
theorem flp_2 {b : Nat → Bool} {p : Nat × Nat} : (flp b p).2 = if b p.1 then 1 - p.2 else p.2 := by
  unfold flp
  by_cases h : b p.1 = true
  · rw [if_pos h, if_pos h]
  · rw [if_neg h, if_neg h]
theorem wkF_flp {F : List (Nat × Nat)} {b : Nat → Bool} (h : wkF F) : wkF (F.map (flp b)) := by
  refine ⟨nodup_map h.1 (fun p q hp hq e => ?_), fun p hp => ?_⟩
  · have e1 := congrArg Prod.fst e
    have e2 := congrArg Prod.snd e
    rw [flp_1, flp_1] at e1
    rw [flp_2, flp_2, e1] at e2
    have p2 := (h.2 p hp).2.1
    have q2 := (h.2 q hq).2.1
    refine Prod.ext e1 ?_
    by_cases hb : b q.1 = true
    · rw [if_pos hb, if_pos hb] at e2; omega
    · rw [if_neg hb, if_neg hb] at e2; exact e2
  · obtain ⟨q, hq, e⟩ := List.mem_map.mp hp
    obtain ⟨h1, h2, h3⟩ := h.2 q hq
    rw [← e]
    refine ⟨by rw [flp_1]; exact h1, ?_, List.mem_map.mpr ⟨(q.1, 1 - q.2), h3, Prod.ext ?_ ?_⟩⟩
    · rw [flp_2]
      by_cases hb : b q.1 = true
      · rw [if_pos hb]; omega
      · rw [if_neg hb]; exact h2
    · rw [flp_1, flp_1]
    · rw [flp_2, flp_2]
      show (if b q.1 then 1 - (1 - q.2) else 1 - q.2) = 1 - if b q.1 then 1 - q.2 else q.2
      by_cases hb : b q.1 = true
      · rw [if_pos hb, if_pos hb]
      · rw [if_neg hb, if_neg hb]
theorem fl_map2 {f : Nat × Nat → Nat × Nat} : ∀ A : rn_L, (A.map (List.map f)).flatten = A.flatten.map f
  | [] => rfl
  | B :: A => by rw [List.map_cons, List.flatten_cons, fl_map2 A, List.flatten_cons, List.map_append]
/-- a net whose visits are changed in place -/
theorem At_map {z z1 : ow_MS} {n : Nat} {A : rn_L} {f : Nat × Nat → Nat × Nat} (h : rn_At z n A []) (e1 : z1.1 (n + 1) = z.1 (n + 1)) (e2 : z1.1 (n + 2) = z.1 (n + 2)) (e3 : z1.2.1 (n + 3) = z.2.1 (n + 3)) (h4 : ∀ v, v < A.flatten.length → z1.2.1 (n + 4) v = nI (f (vAt A v)).1 ∧ z1.2.1 (n + 5) v = nI (f (vAt A v)).2) : rn_At z1 n (A.map (List.map f)) [] := by
  obtain ⟨a1, a2, a3, a4⟩ := h
  refine ⟨?_, ?_, fun c hc => ?_, fun v p hv => ?_⟩
  · rw [e1, a1, List.append_nil, List.append_nil, fl_map2, List.length_map]
  · rw [e2, a2, List.length_map]
  · rw [List.length_map] at hc
    rw [e3, a3 c hc, ← List.map_take, fl_map2, List.length_map]
  · rw [List.append_nil, fl_map2, List.getElem?_map] at hv
    cases hq : A.flatten[v]? with
    | none => rw [hq] at hv; cases hv
    | some q =>
      rw [hq] at hv
      cases hv
      have := h4 v (List.getElem?_eq_some_iff.mp hq).1
      rw [vAt_eq hq] at this
      exact this
section PUBB
variable {X : (Nat → Nat → Int32) → Prop} {z : ow_MS}
theorem e_X13_mirror {x1 : Int32} {z : ow_MS} {Q : (Int32 × ow_MS) → Prop} (H : Tt (fun K k => q_X13_mirror K k 0 x1 0 z) Q) : Te (fun K => qe_X13_mirror K x1 z) Q := w_te H
theorem u_X13_mirror_0 {x1 : Int32} {x2 : Int32} {z : ow_MS} {Q : (Int32 × ow_MS) → Prop} (H : Tt (fun K k => qm_X13_mirror_0 K (q_X13_mirror K k) x1 x2 z) Q) : Tt (fun K k => q_X13_mirror K k 0 x1 x2 z) Q := w_un (fun _ _ => rfl) H
theorem u_X13_mirror_2 {x1 : Int32} {x2 : Int32} {z : ow_MS} {Q : (Int32 × ow_MS) → Prop} (H : Tt (fun K k => qm_X13_mirror_2 K (q_X13_mirror K k) x1 x2 z) Q) : Tt (fun K k => q_X13_mirror K k 2 x1 x2 z) Q := w_un (fun _ _ => rfl) H
theorem u_X13_mirror_1 {x1 : Int32} {x2 : Int32} {z : ow_MS} {Q : (Int32 × ow_MS) → Prop} (H : Tt (fun K k => qm_X13_mirror_1 K (q_X13_mirror K k) x1 x2 z) Q) : Tt (fun K k => q_X13_mirror K k 1 x1 x2 z) Q := w_un (fun _ _ => rfl) H
theorem tp_mirror {d : Int32} (h : gI X z) : Te (fun K => qe_X13_mirror K d z) (fun r => gI X r.2) := by
  have h1 := gI_1 (c := 0) h
  refine e_X13_mirror ?_
  refine u_X13_mirror_0 ?_; unfold qm_X13_mirror_0
  refine w_wrF (w_has h1.2.1 (w_ifT rfl (w_fail h1)) (fun e A sg he hx hv hne => w_ifF (by decide) (w_free (w_ifT rfl (w_fail h1)) (fun f hf hfr => w_ifF (rn_neg1 (by omega)) ?_))))
  subst hx
  refine w_cs0 (to_open pn3 he hv) (fun z2 ⟨o1, f1⟩ => ?_)
  have h2 : gI X z2 := gI_net pn3 f1 (fun g hg => by omega) h1
  have hl := o1.len
  have hfr2 : frD z2 := frD_eq (f1 12 (by omega)).2.1 hfr
  have c2 : ∀ (k x : Nat) (z3 : ow_MS), x + k = 40 → fr (fun g => g = 3005 ∨ g = 3006) z2 z3 → (∀ v, v < A.flatten.length → z3.2.1 3005 v = nI (1 - uns A v)) → (∀ y, y < x → z3.2.1 3006 y = 0 - z2.2.1 3006 y) → (∀ y, x ≤ y → z3.2.1 3006 y = z2.2.1 3006 y) → Tt (fun K i => q_X13_mirror K i 2 (nI e) (nI x) z3) (fun r => gI X r.2) := by
    intro k
    induction k with
    | zero =>
      intro x z3 hx hf hu hs hs2
      refine u_X13_mirror_2 ?_; unfold qm_X13_mirror_2
      refine w_leT (a := 40) (by omega) (by omega) (w_keep (gI_net pn3 hf (fun g hg => by omega) h2) (frD_eq (hf 12 (by omega)).2.1 hfr2) ?_)
      have hA : rn_At z3 3000 (A.map (List.map (flp (fun _ => true)))) [] := At_map o1.1.1 (hf 3001 (by omega)).1 (hf 3002 (by omega)).1 (hf 3003 (by omega)).2.1 (fun v hv9 => ⟨by rw [(hf 3004 (by omega)).2.1, flp_1]; exact (lk_cu o1.1 hv9).1, by rw [flp_2]; exact hu v hv9⟩)
      refine ⟨_, fun x => decide (z3.2.1 3006 x = -1), hA, fun p hp => ?_, by rw [fl_map2]; exact wkF_flp o1.wk, by rw [fl_map2, List.length_map]; exact hl, by rw [List.length_map]; exact o1.2.2.2⟩
      rw [fl_map2] at hp
      obtain ⟨q, hq, e9⟩ := List.mem_map.mp hp
      rw [← e9, flp_1]
      have hq40 := (o1.wk.2 q hq).1
      refine s1_sg ?_
      rw [hs q.1 (by omega)]
      exact s1_neg (s1_if (o1.2.1 q hq))
    | succ k ih =>
      intro x z3 hx hf hu hs hs2
      refine u_X13_mirror_2 ?_; unfold qm_X13_mirror_2
      refine w_leF (a := 40) (by omega) (by omega) (w_rdI (pl6 pn3) rfl (by omega) (hs2 x (by omega)) (w_wrI (pl6 pn3) rfl (by omega) ?_))
      rw [nI_1]
      refine ih (x + 1) _ (by omega) (fr_I2 hf (Or.inr rfl)) (fun v hv9 => rd_ot (by omega) (hu v hv9)) (fun y hy => ?_) (fun y hy => rd_ne (by omega) (hs2 y (by omega)))
      by_cases hyx : y = x
      · rw [hyx, po_usI_at]
      · exact rd_ne hyx (hs y (by omega))
  have c1 : ∀ (k v : Nat) (z3 : ow_MS), v + k = A.flatten.length → fr (fun g => g = 3005) z2 z3 → (∀ w, w < v → z3.2.1 3005 w = nI (1 - uns A w)) → (∀ w, v ≤ w → z3.2.1 3005 w = z2.2.1 3005 w) → Tt (fun K i => q_X13_mirror K i 1 (nI e) (nI v) z3) (fun r => gI X r.2) := by
    intro k
    induction k with
    | zero =>
      intro v z3 hv9 hf hu hu2
      refine u_X13_mirror_1 ?_; unfold qm_X13_mirror_1
      exact w_rdF (x := nI A.flatten.length) (by rw [(hf 3001 (by omega)).1]; exact o1.1.V) (w_leT (by omega) (by omega) (c2 40 0 z3 (by omega) (fr_mono (fun g hg => Or.inl hg) hf) (fun w hw => hu w (by omega)) (fun y hy => by omega) (fun y _ => by rw [(hf 3006 (by omega)).2.1])))
    | succ k ih =>
      intro v z3 hv9 hf hu hu2
      have hvl : v < A.flatten.length := by omega
      have hu9 := (o1.cx hvl).2.1
      refine u_X13_mirror_1 ?_; unfold qm_X13_mirror_1
      refine w_rdF (x := nI A.flatten.length) (by rw [(hf 3001 (by omega)).1]; exact o1.1.V) (w_leF (by omega) hvl (w_rdI (pl5 pn3) rfl (by omega) ((hu2 v (Nat.le_refl _)).trans (lk_cu o1.1 hvl).2) (w_wrI (pl5 pn3) rfl (by omega) ?_)))
      rw [nI_1, show (1 : Int32) - nI (uns A v) = nI (1 - uns A v) from pk_sub (a := 1) (by omega)]
      refine ih (v + 1) _ (by omega) (fr_I2 hf rfl) (fun w hw => ?_) (fun w hw => rd_ne (by omega) (hu2 w (by omega)))
      by_cases hwv : w = v
      · rw [hwv, po_usI_at]
      · exact rd_ne hwv (hu w (by omega))
  exact c1 _ 0 z2 (Nat.zero_add _) fr_rf (fun w hw => by omega) (fun w _ => rfl)
theorem u_X13_changeIn_1 {x1 : Int32} {x2 : Int32} {r0 : Nat} {z : ow_MS} {Q : ow_MS → Prop} (H : Tt (fun K k => qm_X13_changeIn_1 K (q_X13_changeIn K k) x1 x2 r0 z) Q) : Tt (fun K k => q_X13_changeIn K k 1 x1 x2 r0 z) Q := w_un (fun _ _ => rfl) H
theorem u_X13_changeIn_2 {x1 : Int32} {x2 : Int32} {r0 : Nat} {z : ow_MS} {Q : ow_MS → Prop} (H : Tt (fun K k => qm_X13_changeIn_2 K (q_X13_changeIn K k) x1 x2 r0 z) Q) : Tt (fun K k => q_X13_changeIn K k 2 x1 x2 r0 z) Q := w_un (fun _ _ => rfl) H
theorem e_X13_changeIn {r0 : Nat} {x1 : Int32} {z : ow_MS} {Q : ow_MS → Prop} (H : Tt (fun K k => q_X13_changeIn K k 0 x1 0 r0 z) Q) : Te (fun K => qe_X13_changeIn K r0 x1 z) Q := w_te H
theorem u_X13_changeIn_0 {x1 : Int32} {x2 : Int32} {r0 : Nat} {z : ow_MS} {Q : ow_MS → Prop} (H : Tt (fun K k => qm_X13_changeIn_0 K (q_X13_changeIn K k) x1 x2 r0 z) Q) : Tt (fun K k => q_X13_changeIn K k 0 x1 x2 r0 z) Q := w_un (fun _ _ => rfl) H
theorem tp_changeIn {n x : Nat} {A : rn_L} (hn : mw_net n) (hl : A.flatten.length ≤ 40) (hx : x < 40) (hu2 : ∀ v, v < A.flatten.length → uns A v < 2 ∧ crs A v < 40) (hA : rn_At z n A []) : Te (fun K => qe_X13_changeIn K n (nI x) z) (fun z1 => rn_At z1 n (A.map (List.map (flp (fun y => decide (y = x))))) [] ∧ fr (fun g => g = n + 5 ∨ g = n + 6) z z1 ∧ z1.2.1 (n + 6) x = 0 - z.2.1 (n + 6) x ∧ ∀ y, y ≠ x → z1.2.1 (n + 6) y = z.2.1 (n + 6) y) := by
  have aV : ∀ {y : ow_MS}, fr (fun g => g = n + 5) z y → y.1 (n + 1) = nI A.flatten.length := fun hf => by rw [(hf (n + 1) (by omega)).1, hA.1, List.append_nil]
  have key : ∀ (k v : Nat) (z1 : ow_MS), v + k = A.flatten.length → fr (fun g => g = n + 5) z z1 → (∀ w, w < v → z1.2.1 (n + 5) w = nI (flp (fun y => decide (y = x)) (vAt A w)).2) → (∀ w, v ≤ w → z1.2.1 (n + 5) w = z.2.1 (n + 5) w) → Tt (fun K i => q_X13_changeIn K i 1 (nI x) (nI v) n z1) (fun z1 => rn_At z1 n (A.map (List.map (flp (fun y => decide (y = x))))) [] ∧ fr (fun g => g = n + 5 ∨ g = n + 6) z z1 ∧ z1.2.1 (n + 6) x = 0 - z.2.1 (n + 6) x ∧ ∀ y, y ≠ x → z1.2.1 (n + 6) y = z.2.1 (n + 6) y) := by
    intro k
    induction k with
    | zero =>
      intro v z1 hv hf hu hu9
      have e6 := (hf (n + 6) (by omega)).2.1
      refine u_X13_changeIn_1 ?_; unfold qm_X13_changeIn_1
      refine w_rdF (aV hf) (w_leT (by omega) (by omega) (w_rdI (pl6 hn) rfl hx rfl (w_wrI (pl6 hn) rfl hx (w_some ⟨?_, fr_I2 (fr_mono (fun g hg => Or.inl hg) hf) (Or.inr rfl), by rw [po_usI_at, e6], fun y hy => by rw [po_usI_ne hy, e6]⟩))))
      refine At_map hA (hf (n + 1) (by omega)).1 (hf (n + 2) (by omega)).1 (by rw [po_usI_ot (by omega)]; exact (hf (n + 3) (by omega)).2.1) (fun w hw => ⟨rd_ot (by omega) ?_, rd_ot (by omega) (hu w (by omega))⟩)
      rw [(hf (n + 4) (by omega)).2.1, flp_1]
      exact (hA.2.2.2 w _ (by rw [List.append_nil]; exact vAt_of hw)).1
    | succ k ih =>
      intro v z1 hv hf hu hu9
      have hvl : v < A.flatten.length := by omega
      obtain ⟨u1, u2⟩ := hu2 v hvl
      obtain ⟨c4, c5⟩ := hA.2.2.2 v _ (by rw [List.append_nil]; exact vAt_of hvl)
      have c4' : z1.2.1 (n + 4) v = nI (crs A v) := by rw [(hf (n + 4) (by omega)).2.1]; exact c4
      have c5' : z1.2.1 (n + 5) v = nI (uns A v) := by rw [hu9 v (Nat.le_refl _)]; exact c5
      refine u_X13_changeIn_1 ?_; unfold qm_X13_changeIn_1
      refine w_rdF (aV hf) (w_leF (by omega) hvl (w_rdI (pl4 hn) rfl (by omega) c4' (w_eqN (by omega) (by omega) (fun h9 => w_rdI (pl5 hn) rfl (by omega) c5' (w_wrI (pl5 hn) rfl (by omega) ?_)) (fun h9 => ?_))))
      · refine u_X13_changeIn_2 ?_; unfold qm_X13_changeIn_2
        rw [nI_1, show (1 : Int32) - nI (uns A v) = nI (1 - uns A v) from pk_sub (a := 1) (by omega)]
        refine ih (v + 1) _ (by omega) (fr_I2 hf rfl) (fun w hw => ?_) (fun w hw => rd_ne (by omega) (hu9 w (by omega)))
        by_cases hwv : w = v
        · rw [hwv, po_usI_at, flp_2]
          show _ = nI (if decide (crs A v = x) = true then 1 - uns A v else uns A v)
          rw [decide_eq_true h9]
          rfl
        · exact rd_ne hwv (hu w (by omega))
      · refine u_X13_changeIn_2 ?_; unfold qm_X13_changeIn_2
        rw [nI_1]
        refine ih (v + 1) z1 (by omega) hf (fun w hw => ?_) (fun w hw => hu9 w (by omega))
        by_cases hwv : w = v
        · rw [hwv, c5', flp_2]
          show _ = nI (if decide (crs A v = x) = true then 1 - uns A v else uns A v)
          rw [decide_eq_false h9]
          rfl
        · exact hu w (by omega)
  refine e_X13_changeIn ?_
  refine u_X13_changeIn_0 ?_; unfold qm_X13_changeIn_0
  exact key _ 0 z (Nat.zero_add _) fr_rf (fun w hw => by omega) (fun w _ => rfl)
theorem e_X13_change {x1 : Int32} {x2 : Int32} {z : ow_MS} {Q : (Int32 × ow_MS) → Prop} (H : Tt (fun K k => q_X13_change K k 0 x1 x2 z) Q) : Te (fun K => qe_X13_change K x1 x2 z) Q := w_te H
theorem u_X13_change_0 {x1 : Int32} {x2 : Int32} {z : ow_MS} {Q : (Int32 × ow_MS) → Prop} (H : Tt (fun K k => qm_X13_change_0 K (q_X13_change K k) x1 x2 z) Q) : Tt (fun K k => q_X13_change K k 0 x1 x2 z) Q := w_un (fun _ _ => rfl) H
theorem u_X13_change_1 {x1 : Int32} {x2 : Int32} {z : ow_MS} {Q : (Int32 × ow_MS) → Prop} (H : Tt (fun K k => qm_X13_change_1 K (q_X13_change K k) x1 x2 z) Q) : Tt (fun K k => q_X13_change K k 1 x1 x2 z) Q := w_un (fun _ _ => rfl) H
theorem tp_change {d x : Int32} (h : gI X z) : Te (fun K => qe_X13_change K d x z) (fun r => gI X r.2) := by
  have h1 := gI_1 (c := 0) h
  refine e_X13_change ?_
  refine u_X13_change_0 ?_; unfold qm_X13_change_0
  refine w_wrF (w_has h1.2.1 (w_ifT rfl (w_fail h1)) (fun e A sg he hx hv hne => w_ifF (by decide) ?_))
  subst hx
  refine w_cs0 (to_open pn3 he hv) (fun z2 ⟨o1, f1⟩ => ?_)
  have h2 : gI X z2 := gI_net pn3 f1 (fun g hg => by omega) h1
  have hl := o1.len
  have c1 : Tt (fun K k => q_X13_change K k 1 (nI e) x z2) (fun r => gI X r.2) := by
    refine u_X13_change_1 ?_; unfold qm_X13_change_1
    exact w_fail h2
  refine w_if (fun _ => c1) (fun h0 => w_rdF o1.1.V (w_nzI (by decide) ?_))
  rw [show nI A.flatten.length / 2 = nI (A.flatten.length / 2) from pk_div (d := 2) (by omega) (by omega) (by omega)]
  refine w_if (fun h9 => ?_) (fun _ => c1)
  obtain ⟨y, hy31, rfl⟩ := nI_of h0
  have hy : y < A.flatten.length / 2 := (nI_ltI hy31 (by omega)).mp h9
  refine w_free (w_ifT rfl (w_fail h2)) (fun f hf hfr => w_ifF (rn_neg1 (by omega)) (w_cs0 (tp_changeIn pn3 (by omega) (by omega) (fun v hv9 => ?_) o1.1.1) (fun z3 ⟨g1, g2, g3, g4⟩ => w_keep (gI_net pn3 g2 (fun g hg => by omega) h2) (frD_eq (g2 12 (by omega)).2.1 hfr) ?_)))
  · have := o1.cx hv9
    exact ⟨this.2.1, by omega⟩
  · refine ⟨_, fun x => decide (z3.2.1 3006 x = -1), g1, fun p hp => ?_, by rw [fl_map2]; exact wkF_flp o1.wk, by rw [fl_map2, List.length_map]; exact hl, by rw [List.length_map]; exact o1.2.2.2⟩
    rw [fl_map2] at hp
    obtain ⟨q, hq, e9⟩ := List.mem_map.mp hp
    rw [← e9, flp_1]
    refine s1_sg ?_
    have hs := s1_if (o1.2.1 q hq)
    by_cases hqy : q.1 = y
    · rw [hqy] at hs ⊢
      rw [show z3.2.1 3006 y = 0 - z2.2.1 3006 y from g3]
      exact s1_neg hs
    · rw [show z3.2.1 3006 q.1 = z2.2.1 3006 q.1 from g4 q.1 hqy]
      exact hs
theorem e_X13_reverse {x1 : Int32} {x2 : Int32} {z : ow_MS} {Q : (Int32 × ow_MS) → Prop} (H : Tt (fun K k => q_X13_reverse K k 0 x1 x2 0 0 0 0 0 z) Q) : Te (fun K => qe_X13_reverse K x1 x2 z) Q := w_te H
theorem u_X13_reverse_0 {x1 : Int32} {x2 : Int32} {x3 : Int32} {x4 : Int32} {x5 : Int32} {x6 : Int32} {t0 : Int32} {z : ow_MS} {Q : (Int32 × ow_MS) → Prop} (H : Tt (fun K k => qm_X13_reverse_0 K (q_X13_reverse K k) x1 x2 x3 x4 x5 x6 t0 z) Q) : Tt (fun K k => q_X13_reverse K k 0 x1 x2 x3 x4 x5 x6 t0 z) Q := w_un (fun _ _ => rfl) H
theorem u_X13_reverse_1 {x1 : Int32} {x2 : Int32} {x3 : Int32} {x4 : Int32} {x5 : Int32} {x6 : Int32} {t0 : Int32} {z : ow_MS} {Q : (Int32 × ow_MS) → Prop} (H : Tt (fun K k => qm_X13_reverse_1 K (q_X13_reverse K k) x1 x2 x3 x4 x5 x6 t0 z) Q) : Tt (fun K k => q_X13_reverse K k 1 x1 x2 x3 x4 x5 x6 t0 z) Q := w_un (fun _ _ => rfl) H
theorem u_X13_reverse_2 {x1 : Int32} {x2 : Int32} {x3 : Int32} {x4 : Int32} {x5 : Int32} {x6 : Int32} {t0 : Int32} {z : ow_MS} {Q : (Int32 × ow_MS) → Prop} (H : Tt (fun K k => qm_X13_reverse_2 K (q_X13_reverse K k) x1 x2 x3 x4 x5 x6 t0 z) Q) : Tt (fun K k => q_X13_reverse K k 2 x1 x2 x3 x4 x5 x6 t0 z) Q := w_un (fun _ _ => rfl) H
theorem u_X13_reverse_5 {x1 : Int32} {x2 : Int32} {x3 : Int32} {x4 : Int32} {x5 : Int32} {x6 : Int32} {t0 : Int32} {z : ow_MS} {Q : (Int32 × ow_MS) → Prop} (H : Tt (fun K k => qm_X13_reverse_5 K (q_X13_reverse K k) x1 x2 x3 x4 x5 x6 t0 z) Q) : Tt (fun K k => q_X13_reverse K k 5 x1 x2 x3 x4 x5 x6 t0 z) Q := w_un (fun _ _ => rfl) H
theorem u_X13_reverse_7 {x1 : Int32} {x2 : Int32} {x3 : Int32} {x4 : Int32} {x5 : Int32} {x6 : Int32} {t0 : Int32} {z : ow_MS} {Q : (Int32 × ow_MS) → Prop} (H : Tt (fun K k => qm_X13_reverse_7 K (q_X13_reverse K k) x1 x2 x3 x4 x5 x6 t0 z) Q) : Tt (fun K k => q_X13_reverse K k 7 x1 x2 x3 x4 x5 x6 t0 z) Q := w_un (fun _ _ => rfl) H
theorem u_X13_reverse_6 {x1 : Int32} {x2 : Int32} {x3 : Int32} {x4 : Int32} {x5 : Int32} {x6 : Int32} {t0 : Int32} {z : ow_MS} {Q : (Int32 × ow_MS) → Prop} (H : Tt (fun K k => qm_X13_reverse_6 K (q_X13_reverse K k) x1 x2 x3 x4 x5 x6 t0 z) Q) : Tt (fun K k => q_X13_reverse K k 6 x1 x2 x3 x4 x5 x6 t0 z) Q := w_un (fun _ _ => rfl) H
theorem u_X13_reverse_4 {x1 : Int32} {x2 : Int32} {x3 : Int32} {x4 : Int32} {x5 : Int32} {x6 : Int32} {t0 : Int32} {z : ow_MS} {Q : (Int32 × ow_MS) → Prop} (H : Tt (fun K k => qm_X13_reverse_4 K (q_X13_reverse K k) x1 x2 x3 x4 x5 x6 t0 z) Q) : Tt (fun K k => q_X13_reverse K k 4 x1 x2 x3 x4 x5 x6 t0 z) Q := w_un (fun _ _ => rfl) H
theorem u_X13_reverse_3 {x1 : Int32} {x2 : Int32} {x3 : Int32} {x4 : Int32} {x5 : Int32} {x6 : Int32} {t0 : Int32} {z : ow_MS} {Q : (Int32 × ow_MS) → Prop} (H : Tt (fun K k => qm_X13_reverse_3 K (q_X13_reverse K k) x1 x2 x3 x4 x5 x6 t0 z) Q) : Tt (fun K k => q_X13_reverse K k 3 x1 x2 x3 x4 x5 x6 t0 z) Q := w_un (fun _ _ => rfl) H
theorem tp_reverse {d c : Int32} (h : gI X z) : Te (fun K => qe_X13_reverse K d c z) (fun r => gI X r.2) := by
  have h1 := gI_1 (c := 0) h
  refine e_X13_reverse ?_
  refine u_X13_reverse_0 ?_; unfold qm_X13_reverse_0
  refine w_wrF (w_has h1.2.1 (w_ifT rfl (w_fail h1)) (fun e A sg he hx hv hne => w_ifF (by decide) ?_))
  subst hx
  refine w_cs0 (to_open pn1 he hv) (fun z2 ⟨o1, f1⟩ => ?_)
  have h2 : gI X z2 := gI_net pn1 f1 (fun g hg => by omega) h1
  have hl := o1.len
  have hd := wkF_ok o1.wk
  have hC := o1.2.2.2
  have c1 : Tt (fun K k => q_X13_reverse K k 1 (nI e) c 0 0 0 0 0 z2) (fun r => gI X r.2) := by
    refine u_X13_reverse_1 ?_; unfold qm_X13_reverse_1
    exact w_fail h2
  refine w_if (fun _ => c1) (fun _ => w_rdF rfl (w_if (fun _ => w_free (w_ifT rfl (w_fail h2)) (fun f hf hfr => w_ifF (rn_neg1 (by omega)) (w_cs0 (bm_clear (A := A) pn3) (fun z3 ⟨b3, f3⟩ => w_cs0 (tn_signs pn3 pn1 (by omega)) (fun z4 ⟨f4, s4⟩ => ?_))))) (fun _ => c1)))
  let J : ow_MS → Prop := fun y => fr (fun g => 3001 ≤ g ∧ g ≤ 3006) z2 y ∧ ∀ v, v < A.flatten.length → s1 (y.2.1 3006 (crs A v))
  have oJ : ∀ {y : ow_MS}, J y → oNet y 1000 A sg := fun hj => oNet_fr hj.1 (fun g hg => by omega) o1
  have out : ∀ (k m : Nat) (y : ow_MS), m + k = A.length → J y → bmE y 3000 A (fun j => j < rn_b A m) m → Tt (fun K i => q_X13_reverse K i 2 (nI e) c (nI m) 0 0 0 0 y) (fun r => gI X r.2) := by
    intro k
    induction k with
    | zero =>
      intro m y hm hj hb
      have hm2 : m = A.length := by omega
      refine u_X13_reverse_2 ?_; unfold qm_X13_reverse_2
      refine w_rdF (lk_C (oJ hj).1) (w_leT (by omega) (by omega) (w_keep (gI_net pn3 hj.1 (fun g hg => by omega) h2) (frD_eq (hj.1 12 (by omega)).2.1 hfr) ?_))
      rw [hm2, rn_b_len] at hb
      exact bmE_net o1.wk hl hC (fun j hj9 => hj9) (fun j hj9 => mtf_lt hd hj9) (fun j hj9 => hj.2 j hj9) hb
    | succ k ih =>
      intro m y hm hj hb
      have hmC : m < A.length := by omega
      have hmono := rn_b_mono A m
      have hble := rn_b_le A (m + 1)
      have inn : ∀ (t : Bool) (k i : Nat) (y : ow_MS), i + k = rlen A m → J y → bm y 3000 A (fun j => j < rn_b A m ∨ (if t then rn_b A (m + 1) ≤ j + i ∧ j < rn_b A (m + 1) else rn_b A m ≤ j ∧ j < rn_b A m + i)) m → Tt (fun K i9 => q_X13_reverse K i9 5 (nI e) c (nI m) (bZ t) (nI i) 0 0 y) (fun r => gI X r.2) := by
        intro t k
        unfold rlen
        induction k with
        | zero =>
          intro i y hi hj hb
          have o2 := oJ hj
          refine u_X13_reverse_5 ?_; unfold qm_X13_reverse_5
          rw [nI_1]
          refine w_rdI (pl3 pn1) rfl (by omega) (lk_b o2.1 (by omega)) (w_rdI (pl3 pn1) rfl (by omega) (lk_b o2.1 (by omega)) ?_)
          rw [pk_sub hmono]
          refine w_leT (by omega) (by omega) (w_cs0 (bm_end pn3 (by omega) hb) (fun y2 ⟨g1, g2⟩ => ?_))
          refine ih (m + 1) y2 (by omega) ⟨fr_tr hj.1 (fr_mono (fun g hg => by omega) g2), fun v hv9 => ?_⟩ (bmE_eq g1 (fun j => ?_))
          · rw [(g2 3006 (by omega)).2.1]
            exact hj.2 v hv9
          · cases t
            · simp only [Bool.false_eq_true, if_false]
              omega
            · simp only [if_true]
              omega
        | succ k ihk =>
          intro i y hi hj hb
          have o2 := oJ hj
          have hv6 : ∀ v, v < A.flatten.length → rn_b A m ≤ v → v < rn_b A (m + 1) → (v = if t then rn_b A (m + 1) - 1 - i else rn_b A m + i) → Tt (fun K i9 => q_X13_reverse K i9 6 (nI e) c (nI m) (bZ t) (nI i) 0 (nI v) y) (fun r => gI X r.2) := by
            intro v hv9 hvb hvb2 hve
            have hml := mtf_lt hd hv9
            have c7 : ∀ (y2 : ow_MS), J y2 → bm y2 3000 A (fun j => j < rn_b A m ∨ (if t then rn_b A (m + 1) ≤ j + (i + 1) ∧ j < rn_b A (m + 1) else rn_b A m ≤ j ∧ j < rn_b A m + (i + 1))) m → Tt (fun K i9 => q_X13_reverse K i9 7 (nI e) c (nI m) (bZ t) (nI i) (nI v) 0 y2) (fun r => gI X r.2) := by
              intro y2 hj2 hb2
              refine u_X13_reverse_7 ?_; unfold qm_X13_reverse_7
              rw [nI_1]
              exact ihk (i + 1) y2 (by omega) hj2 hb2
            have hnot : ¬ (v < rn_b A m ∨ (if t then rn_b A (m + 1) ≤ v + i ∧ v < rn_b A (m + 1) else rn_b A m ≤ v ∧ v < rn_b A m + i)) := by
              cases t
              · simp only [Bool.false_eq_true, if_false] at hve ⊢
                omega
              · simp only [if_true] at hve ⊢
                omega
            refine u_X13_reverse_6 ?_; unfold qm_X13_reverse_6
            refine w_rdI (pl4 pn1) rfl (by omega) (lk_cu o2.1 hv9).1 (w_rdI (pl5 pn1) rfl (by omega) (lk_cu o2.1 hv9).2 (w_cs0 (bm_add pn3 (by omega) (fun j hj9 => ?_) hnot rfl rfl hb) (fun y2 ⟨g1, g2⟩ => ?_)))
            · cases t
              · simp only [Bool.false_eq_true, if_false] at hj9
                omega
              · simp only [if_true] at hj9
                omega
            · have hb2 : bm y2 3000 A (fun j => j < rn_b A m ∨ (if t then rn_b A (m + 1) ≤ j + (i + 1) ∧ j < rn_b A (m + 1) else rn_b A m ≤ j ∧ j < rn_b A m + (i + 1))) m := bm_eq g1 (fun j => by
                cases t
                · simp only [Bool.false_eq_true, if_false] at hve ⊢
                  omega
                · simp only [if_true] at hve ⊢
                  omega)
              have hj2 : J y2 := ⟨fr_tr hj.1 (fr_mono (fun g hg => by omega) g2), fun v9 hv8 => by
                rw [(g2 3006 (by omega)).2.1]
                exact hj.2 v9 hv8⟩
              have o3 := oJ hj2
              refine w_if (fun _ => c7 y2 hj2 hb2) (fun _ => w_if (fun _ => c7 y2 hj2 hb2) (fun _ => w_rdI (pl7 pn1) rfl (by omega) (lk_m hd o3.1 hv9) (w_rdI (pl8 pn1) rfl (by omega) rfl (w_if (fun _ => c7 y2 hj2 hb2) (fun _ => ?_)))))
              obtain ⟨x1, x2, x3⟩ := o3.cx hv9
              refine w_rdI (pl4 pn1) rfl (by omega) (lk_cu o3.1 hv9).1 (w_rdI (pl4 pn1) rfl (by omega) (lk_cu o3.1 hv9).1 (w_rdI (pl6 pn1) rfl (by omega) x3 (w_wrI (pl6 pn3) rfl (by omega) (c7 _ ⟨fr_I2 hj2.1 (by omega), fun v9 hv8 => ?_⟩ (bm_fr (F := fun g => g = 3006) (fr_I rfl) (fun g hg => by omega) hb2)))))
              by_cases hce : crs A v9 = crs A v
              · rw [hce]
                show s1 ((usI y2 3006 (crs A v) _).2.1 3006 (crs A v))
                rw [po_usI_at]
                exact s1_neg (s1_if rfl)
              · show s1 ((usI y2 3006 (crs A v) _).2.1 3006 (crs A v9))
                rw [po_usI_ne hce]
                exact hj2.2 v9 hv8
          refine u_X13_reverse_5 ?_; unfold qm_X13_reverse_5
          rw [nI_1]
          refine w_rdI (pl3 pn1) rfl (by omega) (lk_b o2.1 (by omega)) (w_rdI (pl3 pn1) rfl (by omega) (lk_b o2.1 (by omega)) ?_)
          rw [pk_sub hmono]
          refine w_leF (by omega) (by omega) ?_
          cases t with
          | false =>
            refine w_ifT rfl (w_rdI (pl3 pn1) rfl (by omega) (lk_b o2.1 (by omega)) ?_)
            rw [nI_add]
            exact hv6 _ (by omega) (by omega) (by omega) rfl
          | true =>
            refine w_ifF (by decide) (w_rdI (pl3 pn1) rfl (by omega) (lk_b o2.1 (by omega)) ?_)
            rw [show nI (rn_b A (m + 1)) - 1 - nI i = nI (rn_b A (m + 1) - 1 - i) from by
              rw [show nI (rn_b A (m + 1)) - 1 = nI (rn_b A (m + 1) - 1) from pk_sub (b := 1) (by omega)]
              exact pk_sub (by omega)]
            exact hv6 _ (by omega) (by omega) (by omega) rfl
      have c4 : ∀ t : Bool, Tt (fun K i9 => q_X13_reverse K i9 4 (nI e) c (nI m) 0 0 0 (bZ t) y) (fun r => gI X r.2) := by
        intro t
        refine u_X13_reverse_4 ?_; unfold qm_X13_reverse_4
        refine inn t (rlen A m) 0 y (by omega) hj (bm_eq hb.b (fun j => ?_))
        cases t
        · simp only [Bool.false_eq_true, if_false]
          omega
        · simp only [if_true]
          omega
      have c3 : Tt (fun K i9 => q_X13_reverse K i9 3 (nI e) c (nI m) 0 0 0 0 y) (fun r => gI X r.2) := by
        refine u_X13_reverse_3 ?_; unfold qm_X13_reverse_3
        exact c4 true
      refine u_X13_reverse_2 ?_; unfold qm_X13_reverse_2
      exact w_rdF (lk_C (oJ hj).1) (w_leF (by omega) (by omega) (w_if (fun _ => c3) (fun _ => w_if (fun _ => c3) (fun _ => c4 false))))
  refine out A.length 0 z4 (by omega) ⟨fr_tr (fr_mono (fun g hg => by omega) f3) (fr_mono (fun g hg => by omega) f4), fun v hv9 => ?_⟩ (bmE_eq (bmE_fr f4 (fun g hg => by omega) b3) (fun j => ?_))
  · obtain ⟨x1, x2, x3⟩ := o1.cx hv9
    have := s4 (crs A v) (by omega)
    rw [show z4.2.1 3006 (crs A v) = z3.2.1 1006 (crs A v) from this, (f3 1006 (by omega)).2.1]
    exact s1_if x3
  · rw [rn_b0]
    exact ⟨fun h9 => h9.elim, fun h9 => by omega⟩
end PUBB
