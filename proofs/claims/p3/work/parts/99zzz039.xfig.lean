section
/-! 99zzzzzzzzzr.xfig -/
/-! exact calls: figure, of both -/
section XF0
variable {A : rn_L} {sg : Nat → Bool} {f : Nat → Nat} {T : ow_NT} {m : Nat → Nat} {P : Nat}
theorem parts_cnt (hi : isoN A sg f T) (hv : vn T.1 T.2.2.1) (hk : mk A m P) : (np_parts T.1 T.2.2.1.1).2 + cirs A = P := by
  have hc := hi.2.2.1
  obtain ⟨p1, p2, p3, p4⟩ := parts_I hv hc
  let F := (np_parts T.1 T.2.2.1.1).1
  let n := (np_parts T.1 T.2.2.1.1).2
  have hex : ∀ r, r < n → ∃ v, v < A.flatten.length ∧ F (lbv A f v) = nI r := by
    intro r hr
    obtain ⟨k, k1, k2⟩ := p3 r hr
    obtain ⟨v, v1, v2⟩ := lbv_sur hi k1
    exact ⟨v, v1, by rw [v2]; exact k2⟩
  let vr : Nat → Nat := fun r => if h : ∃ v, v < A.flatten.length ∧ F (lbv A f v) = nI r then Classical.choose h else 0
  have hvr : ∀ r, r < n → vr r < A.flatten.length ∧ F (lbv A f (vr r)) = nI r := by
    intro r hr
    have h := hex r hr
    have e : vr r = Classical.choose h := dif_pos h
    rw [e]
    exact Classical.choose_spec h
  have hn31 : n < 2 ^ 31 := by
    have : n ≤ 2 * T.1 := p4
    omega
  have pm : ((List.range n).map (fun r => m (rn_c A (vr r)))).Perm ((List.range P).filter (fun p => !(pvl A m p A.flatten.length).isEmpty)) := by
    refine (List.perm_ext_iff_of_nodup (nodup_map List.nodup_range (fun a b ha hb e => ?_)) (nodup_filter List.nodup_range)).mpr (fun p => ?_)
    · have ha := List.mem_range.mp ha
      have hb := List.mem_range.mp hb
      have h1 := (part_iff hi hv hk (hvr a ha).1 (hvr b hb).1).mpr e
      have h2 : nI a = nI b := by
        rw [← (hvr a ha).2, ← (hvr b hb).2]
        exact h1
      exact nI_inj9 (by omega) (by omega) h2
    · rw [List.mem_map, List.mem_filter, List.mem_range, Bool.not_eq_true', List.isEmpty_eq_false_iff]
      constructor
      · rintro ⟨r, r1, r2⟩
        have hr := hvr r (List.mem_range.mp r1)
        refine ⟨by rw [← r2]; exact hk.1 _ (rn_c_in A _ hr.1).1, ?_⟩
        exact List.ne_nil_of_mem (pvl_m.mpr ⟨hr.1, r2⟩)
      · rintro ⟨q1, q2⟩
        obtain ⟨v, hv9⟩ := List.exists_mem_of_ne_nil _ q2
        have hv1 := pvl_m.mp hv9
        obtain ⟨r, r1, r2⟩ := p2 _ (lbv_lt hi hv1.1)
        refine ⟨r, List.mem_range.mpr r1, ?_⟩
        rw [← hv1.2]
        refine (part_iff hi hv hk (hvr r r1).1 hv1.1).mp ?_
        exact (hvr r r1).2.trans r2.symm
  have h1 := pm.length_eq
  rw [List.length_map, List.length_range] at h1
  have h2 := rwL_len (A := A) (sg := sg) (m := m) P
  rw [rwL_eq, List.length_map, ← h1, cir_eq hk] at h2
  exact h2
end XF0
def wG (sg : Nat → Bool) (p : vT) : Int32 := if p.2 = 0 then (if sg p.1 then -1 else 1) else 0
theorem wr_sL {A : rn_L} {sg : Nat → Bool} : ∀ v, v ≤ A.flatten.length → iI (wrN A sg v) = sL (wG sg) (A.flatten.take v)
  | 0, _ => rfl
  | v + 1, h => by
    rw [take_s (vAt_of (show v < A.flatten.length by omega)), sL_s, ← wr_sL v (by omega)]
    show iI (wrN A sg v + if uns A v = 0 then (if sg (crs A v) then -1 else 1) else 0) = _
    rw [← iI_add]
    congr 1
    show iI (if uns A v = 0 then (if sg (crs A v) then -1 else 1) else 0) = if uns A v = 0 then (if sg (crs A v) then -1 else 1) else 0
    split
    · split
      · rfl
      · rfl
    · rfl
theorem np_sL {sg : Nat → Bool} {G : Nat → Int32} : ∀ c, (∀ x, x < c → G x = if sg x then -1 else 1) → np_sum G c = sL (wG sg) (pairs c)
  | 0, _ => rfl
  | c + 1, h => by
    rw [pairs_s, show pairs c ++ [(c, 0), (c, 1)] = (pairs c ++ [(c, 0)]) ++ [(c, 1)] by simp, sL_s, sL_s, ← np_sL c (fun x hx => h x (by omega))]
    show np_sum G c + G c = np_sum G c + (if sg c then -1 else 1) + 0
    rw [h c (by omega), Int32.add_zero]
/-- under and over in turn -/
def uoA (A : rn_L) : Prop := ∀ v, v < A.flatten.length → uns A v ≠ uns A (rn_nx A v)
/-- what figure answers: Pn is the number of parts -/
def figV (A : rn_L) (sg : Nat → Bool) (Pn k : Nat) (r : Int32) : Prop := (k = 0 → r = nI (A.flatten.length / 2)) ∧ (k = 1 → r = nI A.length) ∧ (k = 2 → r = nI (cirs A)) ∧ (k = 3 → r = nI Pn) ∧ (k = 4 → r = sL (wG sg) A.flatten) ∧ (k = 5 → r = 1 ∧ uoA A ∨ r = 0 ∧ ¬ uoA A)
section XF
variable {X : (Nat → Nat → Int32) → Prop} {z : ow_MS} {St : plT}
theorem xq_figure {d what : Int32} (h : gI X z) (hR : relR z St) : Te (fun K => qe_X13_figure K d what z) (fun r => rFl X z 1 r ∧ (∀ e, e < 40 → d = nI e → St e = none) ∨ ∃ e A sg, e < 40 ∧ d = nI e ∧ St e = some (A, sg) ∧ (rFl X z 2 r ∧ ¬ in9 what 6 ∨ rOk X z r ∧ ∃ k, k < 6 ∧ what = nI k ∧ ∃ m Pn, (k = 3 → mk A m Pn) ∧ figV A sg Pn k r.1)) := by
  let Q : Int32 × ow_MS → Prop := fun r => rFl X z 1 r ∧ (∀ e, e < 40 → d = nI e → St e = none) ∨ ∃ e A sg, e < 40 ∧ d = nI e ∧ St e = some (A, sg) ∧ (rFl X z 2 r ∧ ¬ in9 what 6 ∨ rOk X z r ∧ ∃ k, k < 6 ∧ what = nI k ∧ ∃ m Pn, (k = 3 → mk A m Pn) ∧ figV A sg Pn k r.1)
  have h1 := gI_1 (c := 0) h
  have hR1 := relR_1 (c := 0) hR
  refine e_X13_figure ?_
  refine u_X13_figure_0 ?_; unfold qm_X13_figure_0
  refine w_wrF (w_hasX hR1 (fun h0 => w_ifT rfl (w_mono (w_failX h1 fr_1) (fun r hr => Or.inl ⟨hr, h0⟩))) (fun e A sg he hx hs hv hne => w_ifF (by decide) ?_))
  subst hx
  have fin : ∀ {r}, (rFl X z 2 r ∧ ¬ in9 what 6 ∨ rOk X z r ∧ ∃ k, k < 6 ∧ what = nI k ∧ ∃ m Pn, (k = 3 → mk A m Pn) ∧ figV A sg Pn k r.1) → Q r := fun hr => Or.inr ⟨e, A, sg, he, rfl, hs, hr⟩
  have c1 : ¬ in9 what 6 → Tt (fun K k => q_X13_figure K k 1 (nI e) what 0 (usF z 1 0)) Q := by
    intro hno
    refine u_X13_figure_1 ?_; unfold qm_X13_figure_1
    exact w_mono (w_failX (k := 2) h1 fr_1) (fun r hr => fin (Or.inl ⟨hr, hno⟩))
  have h69 := in9_le (x := what) (n := 5) (by omega)
  refine w_if (fun h9 => c1 (fun h8 => (h69.mp h8).1 h9)) (fun e0 => w_if (fun e5 => w_cs0 (to_open pn1 he hv) (fun z2 ⟨o1, f1⟩ => ?_)) (fun h9 => c1 (fun h8 => h9 (h69.mp h8).2)))
  have h2 : gI X z2 := gI_net pn1 f1 (fun g hg => by omega) h1
  have hl := o1.len
  have hc := o1.2.2.2
  have hd := wkF_ok o1.wk
  have f02 : fr rPs z z2 := fr_tr fr_1 (fr_mono (fun g hg => Or.inr (by unfold rSc; omega)) f1)
  have z21 : z2.1 1 = 0 := by rw [(f1 1 (by omega)).1]; exact po_usF_at
  have ok : ∀ {a : Int32} {y : ow_MS} (k : Nat) (m : Nat → Nat) (Pn : Nat), gI X y → y.1 1 = 0 → fr rPs z y → k < 6 → what = nI k → (k = 3 → mk A m Pn) → figV A sg Pn k a → Q (a, y) := fun k m Pn q1 q2 q3 k1 k2 k3 k4 => fin (Or.inr ⟨⟨q1, q2, q3⟩, k, k1, k2, m, Pn, k3, k4⟩)
  have no : ∀ {P : Prop} {a b : Nat}, a ≠ b → a = b → P := fun h9 h8 => absurd h8 h9
  have c2 : what = nI 5 → ∀ (k v : Nat), v + k = A.flatten.length → (∀ u, u < v → uns A u ≠ uns A (rn_nx A u)) → Tt (fun K i => q_X13_figure K i 2 (nI e) what (nI v) z2) Q := by
    intro ew k
    induction k with
    | zero =>
      intro v hv9 hall
      refine u_X13_figure_2 ?_; unfold qm_X13_figure_2
      exact w_rdF o1.1.V (w_leT (by omega) (by omega) (w_some (ok 5 id 0 h2 z21 f02 (by omega) ew (no (by omega)) ⟨no (by omega), no (by omega), no (by omega), no (by omega), no (by omega), fun _ => Or.inl ⟨rfl, fun u hu => hall u (by omega)⟩⟩)))
    | succ k ih =>
      intro v hv9 hall
      have hvl : v < A.flatten.length := by omega
      have hnl := rn_nx_lt (A := A) hvl
      have u1 := (o1.wk.2 _ (vAt_mem hvl)).2.1
      have u2 := (o1.wk.2 _ (vAt_mem hnl)).2.1
      have u1 : uns A v < 2 := u1
      have u2 : uns A (rn_nx A v) < 2 := u2
      refine u_X13_figure_2 ?_; unfold qm_X13_figure_2
      refine w_rdF o1.1.V (w_leF (by omega) hvl (w_rdI (pl5 pn1) rfl (by omega) (lk_cu o1.1 hvl).2 (w_rdI (pl9 pn1) rfl (by omega) (lk_n o1.1 hvl) (w_rdI (pl5 pn1) rfl (by omega) (lk_cu o1.1 hnl).2 (w_if (fun q => w_some (ok 5 id 0 h2 z21 f02 (by omega) ew (no (by omega)) ⟨no (by omega), no (by omega), no (by omega), no (by omega), no (by omega), fun _ => Or.inr ⟨rfl, fun h9 => h9 v hvl (nI_inj9 (by omega) (by omega) q)⟩⟩)) (fun q => ?_))))))
      rw [nI_1]
      refine ih (v + 1) (by omega) (fun u hu => ?_)
      by_cases eu : u = v
      · rw [eu]
        exact fun e9 => q (by rw [e9])
      · exact hall u (by omega)
  refine w_if (fun q => w_rdF o1.1.V (w_nzI (by decide) (w_some (ok 0 id 0 h2 z21 f02 (by omega) q (no (by omega)) ⟨fun _ => pk_div (d := 2) (by omega) (by omega) (by omega), no (by omega), no (by omega), no (by omega), no (by omega), no (by omega)⟩)))) (fun n0 => w_if (fun q => w_rdF (lk_C o1.1) (w_some (ok 1 id 0 h2 z21 f02 (by omega) q (no (by omega)) ⟨no (by omega), fun _ => rfl, no (by omega), no (by omega), no (by omega), no (by omega)⟩))) (fun n1 => w_if (fun q => w_cs1 (tp_circles2 pn1 (by omega) (by omega) o1.1.1) (fun a z3 e9 => ?_)) (fun n2 => w_if (fun q => w_cs0 (tn_split pn1 (by omega) (by omega) hd o1.1) (fun z3 ⟨f3, P, hP⟩ => ?_)) (fun n3 => w_if (fun q => w_cs1 (tp_writhe2 pn1 o1) (fun a z3 e9 => ?_)) (fun n4 => c2 ?_ _ 0 (Nat.zero_add _) (fun u hu => by omega))))))
  · cases e9
    exact w_some (ok 2 id 0 h2 z21 f02 (by omega) q (no (by omega)) ⟨no (by omega), no (by omega), fun _ => by rw [cirs_eC], no (by omega), no (by omega), no (by omega)⟩)
  · obtain ⟨m, hm, -⟩ := mk_of (by omega) hP
    refine w_rdF hP.1 (w_some (ok 3 m P (gI_net pn1 f3 (fun g hg => by rcases hg with hg | hg <;> omega) h2) (by rw [(f3 1 (by unfold frP; omega)).1]; exact z21) (fr_tr f02 (fr_mono (fun g hg => Or.inr (by unfold rSc; unfold frP at hg; omega)) f3)) (by omega) q (fun _ => hm) ⟨no (by omega), no (by omega), no (by omega), fun _ => rfl, no (by omega), no (by omega)⟩))
  · cases e9
    refine w_some (ok 4 id 0 h2 z21 f02 (by omega) q (no (by omega)) ⟨no (by omega), no (by omega), no (by omega), no (by omega), fun _ => ?_, no (by omega)⟩)
    have := wr_sL (A := A) (sg := sg) A.flatten.length (Nat.le_refl _)
    rw [List.take_length] at this
    exact this
  · rcases five e0 e5 with q | q | q | q | q | q
    · exact absurd q n0
    · exact absurd q n1
    · exact absurd q n2
    · exact absurd q n3
    · exact absurd q n4
    · exact q
end XF
section XFC
variable {vl : Nat → Nat} {y : ow_MS} {St : plT} {x x' : Int32}
theorem xc_figure (hN : gN y) (hC : relC y St) (hS : okS St) : Te (fun K => ce_X11_figure vl K 0 x x' y) (fun r => gN r.2.2 ∧ fr uP y r.2.2 ∧ relC r.2.2 St ∧ (r.1 = 1 ∧ (∀ e, e < 40 → x = nI e → St e = none) ∨ ∃ e A sg, e < 40 ∧ x = nI e ∧ St e = some (A, sg) ∧ (r.1 = 2 ∧ ¬ in9 x' 6 ∨ r.1 = 0 ∧ ∃ k, k < 6 ∧ x' = nI k ∧ ∀ m Pn, (k = 3 → mk A m Pn) → figV A sg Pn k r.2.1))) := by
  refine e_X11_figure ?_; unfold cm_X11_figure_0
  refine w_tc0 (xc_need hN.1 hC hS) ?_ ?_
  · rintro y1 ⟨h1, rfl⟩
    rcases h1 with h1 | ⟨-, d, A, sg, c, hd, rfl, hSt, hs, hA, hne, hpl⟩
    · exact absurd (show (0 : Nat) = 1 from h1.1) (by decide)
    · have h69 := in9_le (x := x') (n := 5) (by omega)
      refine w_if (fun e => w_some ⟨hN, fr_rf, hC, Or.inr ⟨d, A, sg, hd, rfl, hSt, Or.inl ⟨rfl, fun h8 => (h69.mp h8).1 e⟩⟩⟩) (fun e0 => w_if (fun e5 => ?_) (fun e => w_some ⟨hN, fr_rf, hC, Or.inr ⟨d, A, sg, hd, rfl, hSt, Or.inl ⟨rfl, fun h8 => e (h69.mp h8).2⟩⟩⟩))
      refine w_cs0 (xc_ld hN hd hs hA hpl) ?_
      rintro y3 ⟨hN3, f3, T, hT, hT1, hV, hpm, hTp⟩
      have hC3 : relC y3 St := relC_fr f3 (fun q hq h9 => by unfold cW at hq; unfold cL at h9; omega) hC
      have hG : ∀ x, x < c → T.2.2.2 x = if sg x then -1 else 1 := fun x hx => iso_sg1 (p := (x, 0)) hV hpm ((hA.1.2 _).mpr ⟨hx, by show 0 < 2; omega⟩)
      have lA := okF_len hA.1
      have no : ∀ {P : Prop} {a b : Nat}, a ≠ b → a = b → P := fun h9 h8 => absurd h8 h9
      have f3u : fr uP y1 y3 := fr_mono (fun g hg => by unfold cL at hg; unfold uP; omega) f3
      have hv := hT.2.2.1
      have hx6 := five e0 e5
      have fin : ∀ (v : Int32) (y4 : ow_MS) (k : Nat), gN y4 → fr uP y1 y4 → relC y4 St → k < 6 → x' = nI k → (∀ m Pn, (k = 3 → mk A m Pn) → figV A sg Pn k v) → Tt (fun _ _ => some ((0 : Nat), v, y4)) (fun r => gN r.2.2 ∧ fr uP y1 r.2.2 ∧ relC r.2.2 St ∧ (r.1 = 1 ∧ (∀ e, e < 40 → nI d = nI e → St e = none) ∨ ∃ e A sg, e < 40 ∧ nI d = nI e ∧ St e = some (A, sg) ∧ (r.1 = 2 ∧ ¬ in9 x' 6 ∨ r.1 = 0 ∧ ∃ k, k < 6 ∧ x' = nI k ∧ ∀ m Pn, (k = 3 → mk A m Pn) → figV A sg Pn k r.2.1))) := fun v y4 k g1 g2 g3 g4 g5 g6 => w_some ⟨g1, g2, g3, Or.inr ⟨d, A, sg, hd, rfl, hSt, Or.inr ⟨rfl, k, g4, g5, g6⟩⟩⟩
      refine w_if (fun e => ?_) (fun e => ?_)
      · refine w_cs1 (tc_alternates nH4 hT.1 hv.2.1) ?_
        rintro v y4 ⟨h4, rfl⟩
        have hx5 : x' = 5 := by
          rcases hx6 with rfl | rfl | rfl | rfl | rfl | rfl
          · exact absurd e (by decide)
          · exact absurd e (by decide)
          · exact absurd e (by decide)
          · exact absurd e (by decide)
          · exact absurd e (by decide)
          · rfl
        have al : (∀ v, v < 2 * T.1 → (nI v &&& 1) ≠ (nI (T.2.2.1.1 v) &&& 1)) ↔ uoA A := by
          have cv : ∀ v, v < A.flatten.length → ((nI (lb (vAt A v)) &&& 1) = (nI (T.2.2.1.1 (lb (vAt A v))) &&& 1) ↔ uns A v = uns A (rn_nx A v)) := fun v hv9 => by
            have hn9 := rn_nx_lt (A := A) hv9
            have e9 : T.2.2.1.1 (lb (vAt A v)) = lb (vAt A (rn_nx A v)) := hT.2.1.2.2.2.2.2.1 v hv9
            have b1 : lb (vAt A v) < 2 * T.1 := lbv_lt hT.2.1 hv9
            have b2 : lb (vAt A (rn_nx A v)) < 2 * T.1 := lbv_lt hT.2.1 hn9
            have c1 : lb (vAt A v) % 2 = uns A v := (lbv_hf hT.2.1 hv9).2
            have c2 : lb (vAt A (rn_nx A v)) % 2 = uns A (rn_nx A v) := (lbv_hf hT.2.1 hn9).2
            have h12 := hv.2.1
            rw [e9, an1_c ⟨lb (vAt A v), by omega⟩, an1_c ⟨lb (vAt A (rn_nx A v)), by omega⟩]
            dsimp only
            rw [c1, c2]
            exact ⟨fun q => nI_inj9 (by omega) (by omega) q, fun q => by rw [q]⟩
          constructor
          · intro h9 v hv9 e9
            exact h9 (lb (vAt A v)) (lbv_lt hT.2.1 hv9) ((cv v hv9).mpr e9)
          · intro h9 k hk e9
            obtain ⟨v, v1, v2⟩ := lbv_sur hT.2.1 hk
            have v2 : lb (vAt A v) = k := v2
            rw [← v2] at e9
            exact h9 v v1 ((cv v v1).mp e9)
        dsimp only at h4
        rcases h4 with ⟨rfl, h5⟩ | ⟨rfl, h5⟩
        · exact w_ifF (by decide) (fin 1 y4 5 hN3 f3u hC3 (by omega) hx5 (fun m Pn _ => ⟨no (by omega), no (by omega), no (by omega), no (by omega), no (by omega), fun _ => Or.inl ⟨rfl, al.mp h5⟩⟩))
        · exact w_ifT rfl (fin 0 y4 5 hN3 f3u hC3 (by omega) hx5 (fun m Pn _ => ⟨no (by omega), no (by omega), no (by omega), no (by omega), no (by omega), fun _ => Or.inr ⟨rfl, fun h9 => by
            obtain ⟨v, v1, v2⟩ := h5
            exact al.mpr h9 v v1 v2⟩⟩))
      · have ci6 : T.2.1 ≤ 6 := by have := hv.2.2.2; omega
        refine w_if (fun e1 => ?_) (fun n0 => w_if (fun e1 => ?_) (fun n1 => w_if (fun e1 => ?_) (fun n2 => w_if (fun e1 => ?_) (fun n3 => w_if (fun e1 => ?_) (fun n4 => ?_)))))
        · subst e1
          exact w_rdF hT.1.1 (fin _ y3 0 hN3 f3u hC3 (by omega) rfl (fun m Pn hm => ⟨fun _ => by rw [show A.flatten.length / 2 = T.1 by omega], no (by omega), no (by omega), no (by omega), no (by omega), no (by omega)⟩))
        · subst e1
          exact w_rdF hT.2.2.2.2.2 (fin _ y3 1 hN3 f3u hC3 (by omega) rfl (fun m Pn hm => ⟨no (by omega), fun _ => rfl, no (by omega), no (by omega), no (by omega), no (by omega)⟩))
        · subst e1
          exact w_rdF hT.1.2.1 (fin _ y3 2 hN3 f3u hC3 (by omega) rfl (fun m Pn hm => ⟨no (by omega), no (by omega), fun _ => by rw [← hT.2.1.2.2.2.2.2.2.2], no (by omega), no (by omega), no (by omega)⟩))
        · subst e1
          refine w_cs0 (tc_markParts nH4 hT.1 (fun a ha => (hv.1 a ha).1) hv.2.1) ?_
          rintro y4 ⟨m1, m2, m3⟩
          have hof := np_parts_of (N := T.2.2.1.1) (c := T.1) (fun a ha => (hv.1 a ha).1) hv.2.1 (y3.2.1 (4000 + 6))
          rw [hof.2] at m2
          have hy4 : cAt y4 4000 T := cAt_fr m3 (fun g hg h9 => by unfold cP at hg; unfold cQ at h9; omega) hT.1
          refine w_rdF m2 (w_rdF hy4.2.1 ?_)
          rw [nI_add]
          exact fin _ y4 3 (gN_net nH4 m3 (fun g hg => by unfold cQ at hg; omega) ⟨T, hy4, hv.2.2.1⟩ hN3) (fr_tr f3u (fr_mono (fun g hg => by unfold cQ at hg; unfold uP; omega) m3)) (relC_fr m3 (fun q hq h9 => by unfold cW at hq; unfold cQ at h9; omega) hC3) (by omega) rfl (fun m Pn hm => ⟨no (by omega), no (by omega), no (by omega), fun _ => by rw [← parts_cnt hT.2.1 hv.1 (hm rfl), hT.2.1.2.2.2.2.2.2.2], no (by omega), no (by omega)⟩)
        · subst e1
          refine w_cs1 (tc_writhe nH4 hT.1 hv.2.1) ?_
          rintro v y4 ⟨h4, rfl⟩
          dsimp only at h4
          exact fin _ y4 4 hN3 f3u hC3 (by omega) rfl (fun m Pn hm => ⟨no (by omega), no (by omega), no (by omega), no (by omega), fun _ => by rw [h4, np_sL T.1 (fun x hx => hG x (by omega)), hT1, sL_pm (okF_pairs hA.1)], no (by omega)⟩)
        · exfalso
          rcases hx6 with h | h | h | h | h | h
          · exact n0 h
          · exact n1 h
          · exact n2 h
          · exact n3 h
          · exact n4 h
          · rw [h] at e
            exact e (by decide)
  · rintro a y1 ha ⟨h1, rfl⟩
    rcases h1 with h1 | h1
    · exact w_some ⟨hN, fr_rf, hC, Or.inl h1⟩
    · exact absurd h1.1 ha
end XFC
end
section
/-! 99zzzzzzzzzs.xtap -/
/-! exact calls: feed and end of the reference; the tape of both -/
def sel5 (a b c d e : Int32) (i : Nat) : Int32 := if i < 4 then a else if i < 8 then b else if i < 12 then c else if i < 16 then d else e
theorem sh4 : ∀ i : Fin 20, (24 - 8 * (nI i.1 &&& 3) : Int32) = nI (24 - 8 * (i.1 % 4)) := by decide +kernel
theorem usF_n9 {z : ow_MS} {h g : Nat} {x : Int32} (e : g ≠ h) : (usF z h x).1 g = z.1 g := if_neg e
def tpR (g : Nat) : Prop := g = 1 ∨ g = 10 ∨ g = 11
section XT
variable {X : (Nat → Nat → Int32) → Prop} {z : ow_MS}
theorem xq_feed {a b c d e : Int32} {t : Nat} (h : gI X z) (ht : t ≤ 400) (h11 : z.1 11 = nI t) : Te (fun K => qe_X13_feed K a b c d e z) (fun r => t + 20 ≤ 400 ∧ r.1 = nI (t + 20) ∧ gI X r.2 ∧ r.2.1 1 = 0 ∧ r.2.1 11 = nI (t + 20) ∧ (∀ i, i < 20 → r.2.2.1 10 (t + i) = bT (sel5 a b c d e i) (i % 4)) ∧ (∀ k, k < t → r.2.2.1 10 k = z.2.1 10 k) ∧ fr tpR z r.2 ∨ 400 < t + 20 ∧ rFl X z 1 r) := by
  let Q : Int32 × ow_MS → Prop := fun r => t + 20 ≤ 400 ∧ r.1 = nI (t + 20) ∧ gI X r.2 ∧ r.2.1 1 = 0 ∧ r.2.1 11 = nI (t + 20) ∧ (∀ i, i < 20 → r.2.2.1 10 (t + i) = bT (sel5 a b c d e i) (i % 4)) ∧ (∀ k, k < t → r.2.2.1 10 k = z.2.1 10 k) ∧ fr tpR z r.2 ∨ 400 < t + 20 ∧ rFl X z 1 r
  have key : ∀ (k i : Nat) (z1 : ow_MS), i + k = 20 → t + 20 ≤ 400 → z1.1 11 = nI (t + i) → z1.1 1 = 0 → (∀ j, j < i → z1.2.1 10 (t + j) = bT (sel5 a b c d e j) (j % 4)) → (∀ k, k < t → z1.2.1 10 k = z.2.1 10 k) → fr tpR z z1 → gI X z1 → Tt (fun K j => q_X13_feed K j 1 a b c d e (nI i) 0 z1) Q := by
    intro k
    induction k with
    | zero =>
      intro i z1 hi h400 q11 q1 qb qk qf hI
      have hi20 : i = 20 := by omega
      subst hi20
      refine u_X13_feed_1 ?_; unfold qm_X13_feed_1
      exact w_leT (a := 20) (by omega) (by omega) (w_rdF q11 (w_some (Or.inl ⟨h400, rfl, hI, q1, q11, qb, qk, qf⟩)))
    | succ k ih =>
      intro i z1 hi h400 q11 q1 qb qk qf hI
      have c2 : ∀ w : Int32, w = sel5 a b c d e i → Tt (fun K j => q_X13_feed K j 2 a b c d e (nI i) w z1) Q := by
        intro w hw
        refine u_X13_feed_2 ?_; unfold qm_X13_feed_2
        rw [nI_1]
        refine w_rdF q11 (w_wrB ml10 rfl (by omega) (w_rdF q11 (w_wrF ?_)))
        rw [nI_1]
        have e4 := sh4 ⟨i, by omega⟩
        dsimp only at e4
        rw [e4]
        have h1 : gI X (usI z1 10 (t + i) (vp_nar .byte (w >>> ((nI (24 - 8 * (i % 4))) &&& 31)).toInt8.toInt32)) := gI_fr (P := fun g => g = 10) (fr_I rfl) (fun g hg => by rw [hg]; decide) hI
        refine ih (i + 1) _ (by omega) h400 po_usF_at (show (usF _ 11 _).1 1 = 0 from (usF_n9 (by decide)).trans q1) (fun j hj => ?_) (fun k hk => ?_) (fr_F2 (fr_I2 qf (Or.inr (Or.inl rfl))) (Or.inr (Or.inr rfl))) (gI_t (t := t + i + 1) rfl (by omega) h1)
        · by_cases ej : j = i
          · rw [ej, ← hw]
            exact po_usI_at
          · exact rd_ne (by omega) (qb j (by omega))
        · exact rd_ne (by omega) (qk k hk)
      refine u_X13_feed_1 ?_; unfold qm_X13_feed_1
      refine w_leF (a := 20) (by omega) (by omega) (w_le (a := 4) (by omega) (by omega) (fun g4 => w_le (a := 8) (by omega) (by omega) (fun g8 => w_le (a := 12) (by omega) (by omega) (fun g12 => w_le (a := 16) (by omega) (by omega) (fun g16 => c2 _ ?_) (fun g16 => c2 _ ?_)) (fun g12 => c2 _ ?_)) (fun g8 => c2 _ ?_)) (fun g4 => c2 _ ?_))
      · unfold sel5
        rw [if_neg (by omega), if_neg (by omega), if_neg (by omega), if_neg (by omega)]
      · unfold sel5
        rw [if_neg (by omega), if_neg (by omega), if_neg (by omega), if_pos (by omega)]
      · unfold sel5
        rw [if_neg (by omega), if_neg (by omega), if_pos (by omega)]
      · unfold sel5
        rw [if_neg (by omega), if_pos (by omega)]
      · unfold sel5
        rw [if_pos (by omega)]
  have f1 : fr tpR z (usF z 1 0) := fr_F (Or.inl rfl)
  refine e_X13_feed ?_
  refine u_X13_feed_0 ?_; unfold qm_X13_feed_0
  refine w_wrF (w_rdF (x := nI t) (rf_ot (by omega) h11) ?_)
  rw [show nI t + 20 = nI (t + 20) from nI_add t 20]
  exact w_le (b := 400) (by omega) (by omega) (fun h9 => key 20 0 _ (by omega) h9 (rf_ot (by omega) h11) po_usF_at (fun j hj => by omega) (fun k _ => rfl) f1 (gI_1 h)) (fun h9 => w_mono (w_failX (k := 1) (gI_1 h) fr_1) (fun r hr => Or.inr ⟨h9, hr⟩))
theorem xq_end {n : Int32} {t : Nat} (h : gI X z) (ht : t ≤ 400) (h11 : z.1 11 = nI t) : Te (fun K => qe_X13_end K n z) (fun r => (∃ u, u ≤ t ∧ n = nI u ∧ gI X r ∧ r.1 1 = 0 ∧ r.1 11 = nI u ∧ r.2.1 10 = z.2.1 10 ∧ fr tpR z r) ∨ (∀ u, u ≤ t → n ≠ nI u) ∧ rFl X z 1 (0, r)) := by
  let Q : ow_MS → Prop := fun r => (∃ u, u ≤ t ∧ n = nI u ∧ gI X r ∧ r.1 1 = 0 ∧ r.1 11 = nI u ∧ r.2.1 10 = z.2.1 10 ∧ fr tpR z r) ∨ (∀ u, u ≤ t → n ≠ nI u) ∧ rFl X z 1 (0, r)
  have c1 : (∀ u, u ≤ t → n ≠ nI u) → Tt (fun K k => q_X13_end K k 1 n (usF z 1 0)) Q := by
    intro hno
    refine u_X13_end_1 ?_; unfold qm_X13_end_1
    refine w_cs1 tm_fails (fun a z1 e => ?_)
    cases e
    exact w_some (Or.inr ⟨hno, gI_1 (gI_1 h), po_usF_at, fr_F2 fr_1 (Or.inl rfl)⟩)
  refine e_X13_end ?_
  refine u_X13_end_0 ?_; unfold qm_X13_end_0
  refine w_wrF (w_if (fun h9 => c1 (fun u hu eu => ?_)) (fun h0 => w_rdF (x := nI t) (rf_ot (by omega) h11) (w_if (fun h1 => w_wrF (w_some ?_)) (fun h1 => c1 (fun u hu eu => ?_)))))
  · rw [eu] at h9
    exact nI_pos (by omega) h9
  · obtain ⟨j, hj, rfl⟩ := nI_of h0
    have hjt : j ≤ t := (nI_leI (by omega) (by omega)).mp h1
    exact Or.inl ⟨j, hjt, rfl, gI_t rfl (by omega) (gI_1 h), (usF_n9 (by decide)).trans po_usF_at, po_usF_at, rfl, fr_F2 (fr_F (Or.inl rfl)) (Or.inr (Or.inr rfl))⟩
  · rw [eu] at h1
    exact h1 ((nI_leI (by omega) (by omega)).mpr hu)
end XT
/-- the tape of the reference and of the class -/
def relT (z y : ow_MS) : Prop := ∃ t, t ≤ 400 ∧ z.1 11 = nI t ∧ y.1 11001 = nI t ∧ ∀ k, k < t → z.2.1 10 k = y.2.1 11002 k
theorem feed_jn {X : (Nat → Nat → Int32) → Prop} {z y : ow_MS} {a b c d e : Int32} {t : Nat} {rr : Int32 × ow_MS} {rc : Nat × Int32 × ow_MS} (ht : t ≤ 400) (h1 : z.1 11 = nI t) (h2 : y.1 11001 = nI t) (h3 : ∀ k, k < t → z.2.1 10 k = y.2.1 11002 k) (hr : t + 20 ≤ 400 ∧ rr.1 = nI (t + 20) ∧ gI X rr.2 ∧ rr.2.1 1 = 0 ∧ rr.2.1 11 = nI (t + 20) ∧ (∀ i, i < 20 → rr.2.2.1 10 (t + i) = bT (sel5 a b c d e i) (i % 4)) ∧ (∀ k, k < t → rr.2.2.1 10 k = z.2.1 10 k) ∧ fr tpR z rr.2 ∨ 400 < t + 20 ∧ rFl X z 1 rr) (hc : (t + 20 ≤ 400 ∧ rc.1 = 0 ∧ rc.2.1 = nI (t + 20) ∧ rc.2.2.1 11001 = nI (t + 20) ∧ (∀ i, i < 4 → rc.2.2.2.1 11002 (t + i) = bT a i ∧ rc.2.2.2.1 11002 (t + 4 + i) = bT b i ∧ rc.2.2.2.1 11002 (t + 8 + i) = bT c i ∧ rc.2.2.2.1 11002 (t + 12 + i) = bT d i ∧ rc.2.2.2.1 11002 (t + 16 + i) = bT e i) ∧ (∀ k, k < t → rc.2.2.2.1 11002 k = y.2.1 11002 k) ∨ 400 < t + 20 ∧ rc.1 = 3 ∧ rc.2.2 = y) ∧ fr tpP y rc.2.2) : relT rr.2 rc.2.2 ∧ (rr.2.1 1 = 0 ∧ rc.1 = 0 ∧ rr.1 = rc.2.1 ∨ rr.2.1 1 = nI 1 ∧ rc.1 = 3) := by
  rcases hr with ⟨r0, r1, r2, r3, r4, r5, r6, r7⟩ | ⟨r0, r1, r2, r3⟩
  · rcases hc.1 with ⟨c0, c1, c2, c3, c4, c5⟩ | ⟨c0, -⟩
    · refine ⟨⟨t + 20, r0, r4, c3, fun k hk => ?_⟩, Or.inl ⟨r3, c1, r1.trans c2.symm⟩⟩
      by_cases hkt : k < t
      · rw [r6 k hkt, c5 k hkt, h3 k hkt]
      · obtain ⟨i, rfl⟩ : ∃ i, k = t + i := ⟨k - t, by omega⟩
        have hi : i < 20 := by omega
        rw [r5 i hi]
        obtain ⟨p0, p1, p2, p3, p4⟩ := c4 (i % 4) (Nat.mod_lt _ (by omega))
        unfold sel5
        have : i / 4 = 0 ∨ i / 4 = 1 ∨ i / 4 = 2 ∨ i / 4 = 3 ∨ i / 4 = 4 := by omega
        rcases this with q | q | q | q | q
        · rw [if_pos (by omega), ← p0]
          exact congrArg _ (by omega)
        · rw [if_neg (by omega), if_pos (by omega), ← p1]
          exact congrArg _ (by omega)
        · rw [if_neg (by omega), if_neg (by omega), if_pos (by omega), ← p2]
          exact congrArg _ (by omega)
        · rw [if_neg (by omega), if_neg (by omega), if_neg (by omega), if_pos (by omega), ← p3]
          exact congrArg _ (by omega)
        · rw [if_neg (by omega), if_neg (by omega), if_neg (by omega), if_neg (by omega), ← p4]
          exact congrArg _ (by omega)
    · omega
  · rcases hc.1 with ⟨c0, -⟩ | ⟨c0, c1, c2⟩
    · omega
    · have e11 := (r3 11 (by unfold rPs rSc; omega)).1
      have e10 := (r3 10 (by unfold rPs rSc; omega)).2.1
      refine ⟨⟨t, ht, by rw [e11]; exact h1, by rw [c2]; exact h2, fun k hk => by rw [e10, c2]; exact h3 k hk⟩, Or.inr ⟨r2, c1⟩⟩
theorem end_jn {X : (Nat → Nat → Int32) → Prop} {z y rr : ow_MS} {x : Int32} {t : Nat} {rc : Nat × ow_MS} (ht : t ≤ 400) (h1 : z.1 11 = nI t) (h2 : y.1 11001 = nI t) (h3 : ∀ k, k < t → z.2.1 10 k = y.2.1 11002 k) (hr : (∃ u, u ≤ t ∧ x = nI u ∧ gI X rr ∧ rr.1 1 = 0 ∧ rr.1 11 = nI u ∧ rr.2.1 10 = z.2.1 10 ∧ fr tpR z rr) ∨ (∀ u, u ≤ t → x ≠ nI u) ∧ rFl X z 1 (0, rr)) (hc : ((∃ u, u ≤ t ∧ x = nI u ∧ rc.1 = 0 ∧ rc.2.1 11001 = nI u) ∨ (∀ u, u ≤ t → x ≠ nI u) ∧ rc.1 = 2 ∧ rc.2 = y) ∧ fr (fun q => q = 11001) y rc.2) : relT rr rc.2 ∧ (rr.1 1 = 0 ∧ rc.1 = 0 ∨ rr.1 1 = nI 1 ∧ rc.1 = 2) := by
  have e2 := (hc.2 11002 (by omega)).2.1
  rcases hr with ⟨u, r0, r1, r2, r3, r4, r5, r6⟩ | ⟨r0, r1, r2, r3⟩
  · rcases hc.1 with ⟨w, c0, c1, c2, c3⟩ | ⟨c0, -⟩
    · have e : u = w := nI_inj9 (by omega) (by omega) (r1.symm.trans c1)
      subst e
      exact ⟨⟨u, by omega, r4, c3, fun k hk => by rw [r5, e2]; exact h3 k (by omega)⟩, Or.inl ⟨r3, c2⟩⟩
    · exact absurd r1 (c0 u r0)
  · rcases hc.1 with ⟨w, c0, c1, -⟩ | ⟨c0, c1, c2⟩
    · exact absurd c1 (r0 w c0)
    · have e11 : rr.1 11 = z.1 11 := (r3 11 (by unfold rPs rSc; omega)).1
      have e10 : rr.2.1 10 = z.2.1 10 := (r3 10 (by unfold rPs rSc; omega)).2.1
      exact ⟨⟨t, ht, by rw [e11]; exact h1, by rw [c2]; exact h2, fun k hk => by rw [e10, c2]; exact h3 k hk⟩, Or.inr ⟨r2, c1⟩⟩
end
section
/-! 99zzzzzzzzzt.xbo -/
/-! both sides of a call answer the same, and the places stay related -/
def rel1 (X : (Nat → Nat → Int32) → Prop) (z y : ow_MS) (St : plT) : Prop := gI X z ∧ gN y ∧ relR z St ∧ relC y St ∧ okS St
def ansI (em : List (Nat × Nat)) (rr : Int32 × ow_MS) (rc : Nat × Int32 × ow_MS) : Prop := rr.2.1 1 = 0 ∧ rc.1 = 0 ∧ rr.1 = rc.2.1 ∨ ∃ j k, (j, k) ∈ em ∧ rr.2.1 1 = nI j ∧ rc.1 = k
def bothI (em : List (Nat × Nat)) (X : (Nat → Nat → Int32) → Prop) (z y : ow_MS) (rr : Int32 × ow_MS) (rc : Nat × Int32 × ow_MS) : Prop := (∃ St, rel1 X rr.2 rc.2.2 St) ∧ fr rPk z rr.2 ∧ fr uP y rc.2.2 ∧ ansI em rr rc
theorem te_two {O P : Type} {f : Nat → Option O} {g : Nat → Option P} {Q : O → Prop} {R : P → Prop} {M : O → P → Prop} (h1 : Te f Q) (h2 : Te g R) (H : ∀ a b, Q a → R b → M a b) : Te f (fun a => Te g (fun b => M a b)) := w_monoE h1 (fun a ha => w_monoE h2 (fun b hb => H a b ha hb))
theorem rPs_k {g : Nat} (h : rPs g) : rPk g := h.elim Or.inl (fun h9 => Or.inr (Or.inr h9))
section XB
variable {X : (Nat → Nat → Int32) → Prop} {z y : ow_MS} {St : plT} {em : List (Nat × Nat)} {rr : Int32 × ow_MS} {rc : Nat × Int32 × ow_MS}
theorem bo_fail {j k : Nat} (h : rel1 X z y St) (hr : rFl X z j rr) (hm : (j, k) ∈ em) (e : rc.1 = k) (hN : gN rc.2.2) (hf : fr uP y rc.2.2) (hC : relC rc.2.2 St) : bothI em X z y rr rc := ⟨⟨St, hr.1, hN, relR_fr hr.2.2 (by unfold rPs rSc; omega) h.2.2.1, hC, h.2.2.2.2⟩, fr_mono (fun g hg => rPs_k hg) hr.2.2, hf, Or.inr ⟨j, k, hm, hr.2.1, e⟩⟩
theorem bo_val (h : rel1 X z y St) (hr : rOk X z rr) (e : rc.1 = 0) (ev : rr.1 = rc.2.1) (hN : gN rc.2.2) (hf : fr uP y rc.2.2) (hC : relC rc.2.2 St) : bothI em X z y rr rc := ⟨⟨St, hr.1, hN, relR_fr hr.2.2 (by unfold rPs rSc; omega) h.2.2.1, hC, h.2.2.2.2⟩, fr_mono (fun g hg => rPs_k hg) hr.2.2, hf, Or.inl ⟨hr.2.1, e, ev⟩⟩
theorem lst_uni2 {e f : Nat} (h1 : lstF St e) (h2 : lstF St f) : e = f := by
  rcases Nat.lt_trichotomy e f with q | q | q
  · exact absurd h1.2.1 (h2.2.2 e q)
  · exact q
  · exact absurd h2.2.1 (h1.2.2 f q)
theorem all_lst {e : Nat} (h1 : allF St) (h2 : lstF St e) : False := h1 e h2.1 h2.2.1
theorem bo_keep {e f : Nat} {A2 : rn_L} {sg2 : Nat → Bool} (h : rel1 X z y St) (he : lstF St e) (hf : lstF St f) (h6 : A2.length ≤ 6) (hne : A2 ≠ []) (e0 : rc.1 = 0) (hc : cKp y f A2 sg2 rc.2) (hr : rKp X z e A2 sg2 rr) : bothI em X z y rr rc := by
  have ef := lst_uni2 hf he
  subst ef
  obtain ⟨k1, A', sg', k2, k3, k4⟩ := kp_join h.2.1.1 h.2.2.2.1 h.2.2.1 h.2.2.2.2 hf h6 hne hc hr
  exact ⟨⟨_, hr.1, hc.2.1, k3, k2, k4⟩, hr.2.2.2.1, hc.2.2.1, Or.inl ⟨hr.2.2.1, e0, k1.symm⟩⟩
theorem okS_6 (h : rel1 X z y St) {d : Nat} {A : rn_L} {sg : Nat → Bool} (hd : d < 40) (hs : St d = some (A, sg)) : A ≠ [] ∧ A.length ≤ 6 ∧ wkF A.flatten := by
  obtain ⟨k1, k2, c, k3⟩ := h.2.2.2.2 d A sg hd hs
  exact ⟨k1, k3.2.2.2.2, okF_wk (by have := k3.2.2.2.1; omega) k3.1⟩
variable {vl : Nat → Nat} {x x' : Int32}
theorem b_mirror (h : rel1 X z y St) : Te (fun K => qe_X13_mirror K x z) (fun rr => Te (fun K => ce_X11_mirror vl K 0 x y) (fun rc => bothI [(1, 1), (2, 3)] X z y rr rc)) := by
  refine te_two (xq_mirror h.1 h.2.2.1) (xc_mirror h.2.1 h.2.2.2.1 h.2.2.2.2) (fun rr rc hr hc => ?_)
  rcases hr with ⟨r1, r2⟩ | ⟨d, A, sg, d1, d2, d3, hr⟩
  · rcases hc with ⟨c1, c2, c3, c4, -⟩ | ⟨d, A, sg, d1, d2, d3, -⟩
    · exact bo_fail h r1 (by simp) c1 c2 c3 c4
    · rw [r2 d d1 d2] at d3
      cases d3
  · rcases hc with ⟨-, -, -, -, c5⟩ | ⟨d', A', sg', d1', d2', d3', hc⟩
    · rw [c5 d d1 d2] at d3
      cases d3
    · obtain ⟨q1, q2⟩ := pl_uni d1' d1 d2' d2 d3' d3
      subst q1
      subst q2
      obtain ⟨n1, n2, -⟩ := okS_6 h d1 d3
      rcases hr with ⟨r1, r2⟩ | ⟨e, r1, r2⟩
      · rcases hc with ⟨c1, c2, c3, c4, -⟩ | ⟨-, f, c1, -⟩
        · exact bo_fail h r1 (by simp) c1 c2 c3 c4
        · exact (all_lst r2 c1).elim
      · rcases hc with ⟨-, -, -, -, c5⟩ | ⟨c0, f, c1, c2⟩
        · exact (all_lst c5 r1).elim
        · exact bo_keep h r1 c1 (by rw [List.length_map]; exact n2) (fun e9 => n1 (List.map_eq_nil_iff.mp e9)) c0 c2 r2
theorem b_change (h : rel1 X z y St) : Te (fun K => qe_X13_change K x x' z) (fun rr => Te (fun K => ce_X11_change vl K 0 x x' y) (fun rc => bothI [(1, 1), (2, 3)] X z y rr rc)) := by
  refine te_two (xq_change h.1 h.2.2.1) (xc_change h.2.1 h.2.2.2.1 h.2.2.2.2) (fun rr rc hr hc => ?_)
  rcases hr with ⟨r1, r2⟩ | ⟨d, A, sg, d1, d2, d3, hr⟩
  · rcases hc with ⟨c1, c2, c3, c4, -⟩ | ⟨d, A, sg, d1, d2, d3, -⟩
    · exact bo_fail h r1 (by simp) c1 c2 c3 c4
    · rw [r2 d d1 d2] at d3
      cases d3
  · rcases hc with ⟨-, -, -, -, c5⟩ | ⟨d', A', sg', d1', d2', d3', hc⟩
    · rw [c5 d d1 d2] at d3
      cases d3
    · obtain ⟨q1, q2⟩ := pl_uni d1' d1 d2' d2 d3' d3
      subst q1
      subst q2
      obtain ⟨n1, n2, n3⟩ := okS_6 h d1 d3
      rcases hr with ⟨r1, r2⟩ | ⟨k, k1, k2, hr⟩
      · rcases hc with ⟨c1, c2, c3, c4, -⟩ | ⟨k, k1, k2, -⟩
        · exact bo_fail h r1 (by simp) c1 c2 c3 c4
        · exact absurd k2 (r2 k k1)
      · rcases hc with ⟨-, -, -, -, c5⟩ | ⟨k', k1', k2', hc⟩
        · exact absurd k2 (c5 k k1)
        · obtain ⟨c, hc12, -⟩ := h.2.2.2.2 d A' sg' d1 d3
          obtain ⟨cc, hcc⟩ := (h.2.2.2.2 d A' sg' d1 d3).2.2
          have l24 := okF_len hcc.1
          have l12 := hcc.2.2.2.1
          have ek : k = k' := nI_inj9 (by omega) (by omega) (k2.symm.trans k2')
          subst ek
          rcases hr with ⟨r1, r2⟩ | ⟨e, r1, r2⟩
          · rcases hc with ⟨c1, c2, c3, c4, -⟩ | ⟨-, f, c1, -⟩
            · exact bo_fail h r1 (by simp) c1 c2 c3 c4
            · exact (all_lst r2 c1).elim
          · rcases hc with ⟨-, -, -, -, c5⟩ | ⟨c0, f, c1, c2⟩
            · exact (all_lst c5 r1).elim
            · exact bo_keep h r1 c1 (by rw [List.length_map]; exact n2) (fun e9 => n1 (List.map_eq_nil_iff.mp e9)) c0 c2 r2
theorem b_reverse (h : rel1 X z y St) : Te (fun K => qe_X13_reverse K x x' z) (fun rr => Te (fun K => ce_X11_reverse vl K 0 x x' y) (fun rc => bothI [(1, 1), (2, 3)] X z y rr rc)) := by
  refine te_two (xq_reverse h.1 h.2.2.1) (xc_reverse h.2.1 h.2.2.2.1 h.2.2.2.2) (fun rr rc hr hc => ?_)
  rcases hr with ⟨r1, r2⟩ | ⟨d, A, sg, d1, d2, d3, hr⟩
  · rcases hc with ⟨c1, c2, c3, c4, -⟩ | ⟨d, A, sg, d1, d2, d3, -⟩
    · exact bo_fail h r1 (by simp) c1 c2 c3 c4
    · rw [r2 d d1 d2] at d3
      cases d3
  · rcases hc with ⟨-, -, -, -, c5⟩ | ⟨d', A', sg', d1', d2', d3', hc⟩
    · rw [c5 d d1 d2] at d3
      cases d3
    · obtain ⟨q1, q2⟩ := pl_uni d1' d1 d2' d2 d3' d3
      subst q1
      subst q2
      obtain ⟨n1, n2, n3⟩ := okS_6 h d1 d3
      rcases hr with ⟨r1, r2⟩ | ⟨ok, hr⟩
      · rcases hc with ⟨c1, c2, c3, c4, -⟩ | ⟨ok, -⟩
        · exact bo_fail h r1 (by simp) c1 c2 c3 c4
        · exact absurd ok r2
      · rcases hc with ⟨-, -, -, -, c5⟩ | ⟨-, hc⟩
        · exact absurd ok c5
        · rcases hr with ⟨r1, r2⟩ | ⟨e, r1, r2⟩
          · rcases hc with ⟨c1, c2, c3, c4, -⟩ | ⟨-, f, c1, -⟩
            · exact bo_fail h r1 (by simp) c1 c2 c3 c4
            · exact (all_lst r2 c1).elim
          · rcases hc with ⟨-, -, -, -, c5⟩ | ⟨c0, f, c1, c2⟩
            · exact (all_lst c5 r1).elim
            · have lr : (rvX (tauC x') A' A'.length).length = A'.length := by
                unfold rvX
                rw [List.length_map, List.length_range]
              refine bo_keep h r1 c1 (by rw [lr]; exact n2) (fun e9 => n1 ?_) c0 c2 r2
              rw [e9] at lr
              exact List.length_eq_zero_iff.mp lr.symm
theorem b_smooth (h : rel1 X z y St) : Te (fun K => qe_X13_smooth K x x' z) (fun rr => Te (fun K => ce_X11_smooth vl K 0 x x' y) (fun rc => bothI [(1, 1), (2, 4), (3, 3)] X z y rr rc)) := by
  refine te_two (xq_smooth h.1 h.2.2.1) (xc_smooth h.2.1 h.2.2.2.1 h.2.2.2.2) (fun rr rc hr hc => ?_)
  rcases hr with ⟨r1, r2⟩ | ⟨d, A, sg, d1, d2, d3, hr⟩
  · rcases hc with ⟨c1, c2, c3, c4, -⟩ | ⟨d, A, sg, d1, d2, d3, -⟩
    · exact bo_fail h r1 (by simp) c1 c2 c3 c4
    · rw [r2 d d1 d2] at d3
      cases d3
  · rcases hc with ⟨-, -, -, -, c5⟩ | ⟨d', A', sg', d1', d2', d3', hc⟩
    · rw [c5 d d1 d2] at d3
      cases d3
    · obtain ⟨q1, q2⟩ := pl_uni d1' d1 d2' d2 d3' d3
      subst q1
      subst q2
      obtain ⟨n1, n2, n3⟩ := okS_6 h d1 d3
      rcases hr with ⟨r1, r2⟩ | ⟨k, v, w, k1, k2, k3, hr⟩
      · rcases hc with ⟨c1, c2, c3, c4, -⟩ | ⟨k, v, w, k1, k2, -⟩
        · exact bo_fail h r1 (by simp) c1 c2 c3 c4
        · exact absurd k2 (r2 k k1)
      · rcases hc with ⟨-, -, -, -, c5⟩ | ⟨k', v', w', k1', k2', k3', hc⟩
        · exact absurd k2 (c5 k k1)
        · obtain ⟨cc, hcc⟩ := (h.2.2.2.2 d A' sg' d1 d3).2.2
          have l24 := okF_len hcc.1
          have l12 := hcc.2.2.2.1
          have ek : k = k' := nI_inj9 (by omega) (by omega) (k2.symm.trans k2')
          subst ek
          obtain ⟨e1, e2⟩ := sm2_uni n3.1 k3 k3'
          subst e1
          subst e2
          rcases hr with ⟨r1, r2⟩ | ⟨h6, hr⟩
          · rcases hc with ⟨c1, c2, c3, c4, -⟩ | ⟨c6, -⟩
            · exact bo_fail h r1 (by simp) c1 c2 c3 c4
            · omega
          · rcases hc with ⟨-, -, -, -, c5⟩ | ⟨-, hc⟩
            · omega
            · rcases hr with ⟨r1, r2⟩ | ⟨e, r1, r2⟩
              · rcases hc with ⟨c1, c2, c3, c4, -⟩ | ⟨-, f, c1, -⟩
                · exact bo_fail h r1 (by simp) c1 c2 c3 c4
                · exact (all_lst r2 c1).elim
              · rcases hc with ⟨-, -, -, -, c5⟩ | ⟨c0, f, c1, c2⟩
                · exact (all_lst c5 r1).elim
                · refine bo_keep h r1 c1 h6 (fun e9 => ?_) c0 c2 r2
                  have e9 := congrArg List.length e9
                  unfold smV at e9
                  rw [List.length_map] at e9
                  unfold smC at e9
                  split at e9
                  · simp only [List.length_append, List.length_cons, List.length_nil] at e9
                    omega
                  · simp only [List.length_append, List.length_cons, List.length_nil] at e9
                    omega
theorem b_apart (h : rel1 X z y St) : Te (fun K => qe_X13_apart K x x' z) (fun rr => Te (fun K => ce_X11_apart vl K 0 x x' y) (fun rc => bothI [(1, 1), (2, 4), (3, 3)] X z y rr rc)) := by
  refine te_two (xq_apart h.1 h.2.2.1) (xc_apart h.2.1 h.2.2.2.1 h.2.2.2.2) (fun rr rc hr hc => ?_)
  rcases hr with ⟨r1, r2⟩ | ⟨d, A, sg, e, B, sgB, d1, d2, d3, e1, e2, e3, hr⟩
  · rcases hc with ⟨c1, c2, c3, c4, -⟩ | ⟨d, A, sg, e, B, sgB, d1, d2, d3, e1, e2, e3, -⟩
    · exact bo_fail h r1 (by simp) c1 c2 c3 c4
    · rcases r2 with r2 | r2
      · rw [r2 d d1 d2] at d3
        cases d3
      · rw [r2 e e1 e2] at e3
        cases e3
  · rcases hc with ⟨-, -, -, -, c5⟩ | ⟨d', A', sg', e', B', sgB', d1', d2', d3', e1', e2', e3', hc⟩
    · rcases c5 with c5 | c5
      · rw [c5 d d1 d2] at d3
        cases d3
      · rw [c5 e e1 e2] at e3
        cases e3
    · obtain ⟨q1, q2⟩ := pl_uni d1' d1 d2' d2 d3' d3
      subst q1
      subst q2
      obtain ⟨q1, q2⟩ := pl_uni e1' e1 e2' e2 e3' e3
      subst q1
      subst q2
      obtain ⟨n1, n2, n3⟩ := okS_6 h d1 d3
      rcases hr with ⟨r1, r2⟩ | ⟨r3, r4, hr⟩
      · rcases hc with ⟨c1, c2, c3, c4, -⟩ | ⟨c3, c4, -⟩
        · exact bo_fail h r1 (by simp) c1 c2 c3 c4
        · omega
      · rcases hc with ⟨-, -, -, -, c5⟩ | ⟨-, -, hc⟩
        · omega
        · rcases hr with ⟨r1, r2⟩ | ⟨f, r1, r2⟩
          · rcases hc with ⟨c1, c2, c3, c4, -⟩ | ⟨-, f, c1, -⟩
            · exact bo_fail h r1 (by simp) c1 c2 c3 c4
            · exact (all_lst r2 c1).elim
          · rcases hc with ⟨-, -, -, -, c5⟩ | ⟨c0, g, c1, c2⟩
            · exact (all_lst c5 r1).elim
            · exact bo_keep h r1 c1 (by rw [List.length_append]; unfold shN; rw [List.length_map]; exact r4) (fun e9 => n1 (List.append_eq_nil_iff.mp e9).1) c0 c2 r2
theorem b_join {v0 w0 : Int32} (h : rel1 X z y St) : Te (fun K => qe_X13_join K x v0 x' w0 z) (fun rr => Te (fun K => ce_X11_join vl K 0 x v0 x' w0 y) (fun rc => bothI [(1, 1), (2, 4), (3, 3)] X z y rr rc)) := by
  refine te_two (xq_join h.1 h.2.2.1) (xc_join h.2.1 h.2.2.2.1 h.2.2.2.2) (fun rr rc hr hc => ?_)
  rcases hr with ⟨r1, r2⟩ | ⟨A, sg, B, sgB, v, w, hG, hr⟩
  · rcases hc with ⟨c1, c2, c3, c4, -⟩ | ⟨A, sg, B, sgB, v, w, hG, -⟩
    · exact bo_fail h r1 (by simp) c1 c2 c3 c4
    · exact absurd hG (r2 _ _ _ _ _ _)
  · rcases hc with ⟨-, -, -, -, c5⟩ | ⟨A', sg', B', sgB', v', w', hG', hc⟩
    · exact absurd hG (c5 _ _ _ _ _ _)
    · obtain ⟨⟨d, d1, d2, d3⟩, ⟨e, e1, e2, e3⟩, v1, v2, w1, w2⟩ := hG
      obtain ⟨⟨d', d1', d2', d3'⟩, ⟨e', e1', e2', e3'⟩, v1', v2', w1', w2'⟩ := hG'
      obtain ⟨q1, q2⟩ := pl_uni d1' d1 d2' d2 d3' d3
      subst q1
      subst q2
      obtain ⟨q1, q2⟩ := pl_uni e1' e1 e2' e2 e3' e3
      subst q1
      subst q2
      obtain ⟨n1, n2, n3⟩ := okS_6 h d1 d3
      obtain ⟨m1, m2, m3⟩ := okS_6 h e1 e3
      obtain ⟨cc, hcc⟩ := (h.2.2.2.2 d A' sg' d1 d3).2.2
      obtain ⟨cd, hcd⟩ := (h.2.2.2.2 e B' sgB' e1 e3).2.2
      have l24 := okF_len hcc.1
      have l12 := hcc.2.2.2.1
      have l25 := okF_len hcd.1
      have l13 := hcd.2.2.2.1
      have ev : v = v' := nI_inj9 (by omega) (by omega) (v2.symm.trans v2')
      subst ev
      have ew : w = w' := nI_inj9 (by omega) (by omega) (w2.symm.trans w2')
      subst ew
      rcases hr with ⟨r1, r2⟩ | ⟨r3, r4, hr⟩
      · rcases hc with ⟨c1, c2, c3, c4, -⟩ | ⟨c3, c4, -⟩
        · exact bo_fail h r1 (by simp) c1 c2 c3 c4
        · omega
      · rcases hc with ⟨-, -, -, -, c5⟩ | ⟨-, -, hc⟩
        · omega
        · rcases hr with ⟨r1, r2⟩ | ⟨f, r1, r2⟩
          · rcases hc with ⟨c1, c2, c3, c4, -⟩ | ⟨-, f, c1, -⟩
            · exact bo_fail h r1 (by simp) c1 c2 c3 c4
            · exact (all_lst r2 c1).elim
          · rcases hc with ⟨-, -, -, -, c5⟩ | ⟨c0, g, c1, c2⟩
            · exact (all_lst c5 r1).elim
            · have pl := (jo_perm (A := A') (B := B') (s := A'.flatten.length / 2) v1 w1).2
              have p1 := List.length_pos_iff.mpr n1
              have p2 := List.length_pos_iff.mpr m1
              refine bo_keep h r1 c1 (by omega) (fun e9 => ?_) c0 c2 r2
              rw [e9] at pl
              have pl : 0 + 1 = A'.length + B'.length := pl
              omega
end XB
end
section
/-! 99zzzzzzzzzu.xbo2 -/
/-! both sides: visit, linking, figure, alike, drop -/
theorem mk_uni {A : rn_L} {m m' : Nat → Nat} {P P' : Nat} (h : mk A m P) (h' : mk A m' P') : P = P' := by
  have le : ∀ {m m' : Nat → Nat} {P P' : Nat}, mk A m P → mk A m' P' → P ≤ P' := fun {m m' P P'} h h' => by
    have ch : ∀ p, ∃ c, p < P → c < A.length ∧ m c = p := fun p => by
      by_cases e : p < P
      · obtain ⟨c, c1, c2⟩ := h.2.2.2 p e
        exact ⟨c, fun _ => ⟨c1, c2⟩⟩
      · exact ⟨0, fun h9 => absurd h9 e⟩
    have h1 : cntB (fun _ => true) P ≤ cntB (fun _ => true) P' := by
      refine cntB_inj P (fun _ => true) (fun _ => true) (fun p => m' (Classical.choose (ch p))) (fun p hp _ => ?_) (fun p q hp hq _ _ e => ?_)
      · exact ⟨h'.1 _ (Classical.choose_spec (ch p) hp).1, rfl⟩
      · obtain ⟨a1, a2⟩ := Classical.choose_spec (ch p) hp
        obtain ⟨b1, b2⟩ := Classical.choose_spec (ch q) hq
        have := mk_con h (h'.2.2.1 _ _ a1 b1 e)
        rw [a2, b2] at this
        exact this
    have ct : ∀ n, cntB (fun _ => true) n = n := fun n => by
      induction n with
      | zero => rfl
      | succ n ih =>
        show cntB (fun _ => true) n + 1 = n + 1
        rw [ih]
    rw [ct, ct] at h1
    exact h1
  exact Nat.le_antisymm (le h h') (le h' h)
def bothZ (X : (Nat → Nat → Int32) → Prop) (z y : ow_MS) (rr : Int32 × ow_MS) (rc : Int32 × ow_MS) : Prop := (∃ St, rel1 X rr.2 rc.2 St) ∧ fr rPk z rr.2 ∧ fr uP y rc.2 ∧ rr.2.1 1 = 0 ∧ rr.1 = rc.1
section XB2
variable {X : (Nat → Nat → Int32) → Prop} {z y : ow_MS} {St : plT} {vl : Nat → Nat} {x x' : Int32}
theorem b_visit {x3 : Int32} (h : rel1 X z y St) : Te (fun K => qe_X13_visit K x x' x3 z) (fun rr => Te (fun K => ce_X11_visit vl K 0 x x' x3 y) (fun rc => bothI [(1, 1), (2, 2)] X z y rr rc)) := by
  refine te_two (xq_visit h.1 h.2.2.1) (xc_visit h.2.1 h.2.2.2.1 h.2.2.2.2) (fun rr rc hr hc => ?_)
  obtain ⟨g1, g2, g3, hc⟩ := hc
  rcases hr with ⟨r1, r2⟩ | ⟨d, A, sg, d1, d2, d3, hr⟩
  · rcases hc with ⟨c1, -⟩ | ⟨d, A, sg, d1, d2, d3, -⟩
    · exact bo_fail h r1 (by simp) c1 g1 g2 g3
    · rw [r2 d d1 d2] at d3
      cases d3
  · rcases hc with ⟨-, c5⟩ | ⟨d', A', sg', d1', d2', d3', hc⟩
    · rw [c5 d d1 d2] at d3
      cases d3
    · obtain ⟨q1, q2⟩ := pl_uni d1' d1 d2' d2 d3' d3
      subst q1
      subst q2
      obtain ⟨cc, hcc⟩ := (h.2.2.2.2 d A' sg' d1 d3).2.2
      have l24 := okF_len hcc.1
      have l12 := hcc.2.2.2.1
      rcases hr with ⟨r1, r2⟩ | ⟨v, v1, v2, hr⟩
      · rcases hc with ⟨c1, -⟩ | ⟨v, v1, v2, -⟩
        · exact bo_fail h r1 (by simp) c1 g1 g2 g3
        · exact absurd ⟨v, v1, v2⟩ r2
      · rcases hc with ⟨-, c5⟩ | ⟨v', v1', v2', hc⟩
        · exact absurd ⟨v, v1, v2⟩ c5
        · have ev : v = v' := nI_inj9 (by omega) (by omega) (v2.symm.trans v2')
          subst ev
          rcases hr with ⟨r1, r2⟩ | ⟨r1, k, k1, k2, k3⟩
          · rcases hc with ⟨c1, -⟩ | ⟨-, k, k1, k2, -⟩
            · exact bo_fail h r1 (by simp) c1 g1 g2 g3
            · exact absurd ⟨k, k1, k2⟩ r2
          · rcases hc with ⟨-, c5⟩ | ⟨c1, k', k1', k2', k3'⟩
            · exact absurd ⟨k, k1, k2⟩ c5
            · have ek : k = k' := nI_inj9 (by omega) (by omega) (k2.symm.trans k2')
              subst ek
              exact bo_val h r1 c1 (k3.trans k3'.symm) g1 g2 g3
theorem b_linking {a b : Int32} (h : rel1 X z y St) : Te (fun K => qe_X13_linking K x a b z) (fun rr => Te (fun K => ce_X11_linking vl K 0 x a b y) (fun rc => bothI [(1, 1), (2, 2)] X z y rr rc)) := by
  refine te_two (xq_linking h.1 h.2.2.1) (xc_linking h.2.1 h.2.2.2.1 h.2.2.2.2) (fun rr rc hr hc => ?_)
  obtain ⟨g1, g2, g3, hc⟩ := hc
  rcases hr with ⟨r1, r2⟩ | ⟨d, A, sg, d1, d2, d3, hr⟩
  · rcases hc with ⟨c1, -⟩ | ⟨d, A, sg, d1, d2, d3, -⟩
    · exact bo_fail h r1 (by simp) c1 g1 g2 g3
    · rw [r2 d d1 d2] at d3
      cases d3
  · rcases hc with ⟨-, c5⟩ | ⟨d', A', sg', d1', d2', d3', hc⟩
    · rw [c5 d d1 d2] at d3
      cases d3
    · obtain ⟨q1, q2⟩ := pl_uni d1' d1 d2' d2 d3' d3
      subst q1
      subst q2
      obtain ⟨n1, n2, n3⟩ := okS_6 h d1 d3
      rcases hr with ⟨r1, r2⟩ | ⟨i, j, i1, j1, i2, j2, hr⟩
      · rcases hc with ⟨c1, -⟩ | ⟨i, j, i1, j1, i2, j2, -⟩
        · exact bo_fail h r1 (by simp) c1 g1 g2 g3
        · exact absurd ⟨⟨i, i1, i2⟩, j, j1, j2⟩ r2
      · rcases hc with ⟨-, c5⟩ | ⟨i', j', i1', j1', i2', j2', hc⟩
        · exact absurd ⟨⟨i, i1, i2⟩, j, j1, j2⟩ c5
        · have ei : i = i' := nI_inj9 (by omega) (by omega) (i2.symm.trans i2')
          subst ei
          have ej : j = j' := nI_inj9 (by omega) (by omega) (j2.symm.trans j2')
          subst ej
          rcases hr with ⟨r1, r2⟩ | ⟨r1, r2, r3⟩
          · rcases hc with ⟨c1, -⟩ | ⟨-, c2, -⟩
            · exact bo_fail h r1 (by simp) c1 g1 g2 g3
            · exact absurd r2 c2
          · rcases hc with ⟨-, c5⟩ | ⟨c1, -, c3⟩
            · exact absurd c5 r2
            · exact bo_val h r1 c1 (r3.trans c3.symm) g1 g2 g3
theorem fig_uni {A : rn_L} {sg : Nat → Bool} {Pn k : Nat} {r s : Int32} (hk : k < 6) (h : figV A sg Pn k r) (h' : figV A sg Pn k s) : r = s := by
  obtain ⟨a0, a1, a2, a3, a4, a5⟩ := h
  obtain ⟨b0, b1, b2, b3, b4, b5⟩ := h'
  have : k = 0 ∨ k = 1 ∨ k = 2 ∨ k = 3 ∨ k = 4 ∨ k = 5 := by omega
  rcases this with e | e | e | e | e | e
  · exact (a0 e).trans (b0 e).symm
  · exact (a1 e).trans (b1 e).symm
  · exact (a2 e).trans (b2 e).symm
  · exact (a3 e).trans (b3 e).symm
  · exact (a4 e).trans (b4 e).symm
  · rcases a5 e with ⟨q1, q2⟩ | ⟨q1, q2⟩ <;> rcases b5 e with ⟨p1, p2⟩ | ⟨p1, p2⟩
    · exact q1.trans p1.symm
    · exact absurd q2 p2
    · exact absurd p2 q2
    · exact q1.trans p1.symm
theorem b_figure (h : rel1 X z y St) : Te (fun K => qe_X13_figure K x x' z) (fun rr => Te (fun K => ce_X11_figure vl K 0 x x' y) (fun rc => bothI [(1, 1), (2, 2)] X z y rr rc)) := by
  refine te_two (xq_figure h.1 h.2.2.1) (xc_figure h.2.1 h.2.2.2.1 h.2.2.2.2) (fun rr rc hr hc => ?_)
  obtain ⟨g1, g2, g3, hc⟩ := hc
  rcases hr with ⟨r1, r2⟩ | ⟨d, A, sg, d1, d2, d3, hr⟩
  · rcases hc with ⟨c1, -⟩ | ⟨d, A, sg, d1, d2, d3, -⟩
    · exact bo_fail h r1 (by simp) c1 g1 g2 g3
    · rw [r2 d d1 d2] at d3
      cases d3
  · rcases hc with ⟨-, c5⟩ | ⟨d', A', sg', d1', d2', d3', hc⟩
    · rw [c5 d d1 d2] at d3
      cases d3
    · obtain ⟨q1, q2⟩ := pl_uni d1' d1 d2' d2 d3' d3
      subst q1
      subst q2
      rcases hr with ⟨r1, r2⟩ | ⟨r1, k, k1, k2, m, Pn, k3, k4⟩
      · rcases hc with ⟨c1, -⟩ | ⟨-, k, k1, k2, -⟩
        · exact bo_fail h r1 (by simp) c1 g1 g2 g3
        · exact absurd ⟨k, k1, k2⟩ r2
      · rcases hc with ⟨-, c5⟩ | ⟨c1, k', k1', k2', k3'⟩
        · exact absurd ⟨k, k1, k2⟩ c5
        · have ek : k = k' := nI_inj9 (by omega) (by omega) (k2.symm.trans k2')
          subst ek
          exact bo_val h r1 c1 (fig_uni k1 k4 (k3' m Pn k3)) g1 g2 g3
theorem b_alike (h : rel1 X z y St) : Te (fun K => qe_X13_alike K x x' z) (fun rr => Te (fun K => ce_X11_alike vl K 0 x x' y) (fun rc => bothZ X z y rr rc)) := by
  refine te_two (xq_alike h.1 h.2.2.1) (xc_alike h.2.1.1 h.2.2.2.1 h.2.2.2.2) (fun rr rc hr hc => ?_)
  obtain ⟨⟨a1, a2, a3⟩, hr⟩ := hr
  obtain ⟨e, hc⟩ := hc
  have ev : rr.1 = rc.1 := by
    rcases hr with ⟨r1, r2⟩ | ⟨r1, r2⟩ <;> rcases hc with ⟨c1, c2⟩ | ⟨c1, c2⟩
    · exact r1.trans c1.symm
    · exact absurd r2 c2
    · exact absurd c2 r2
    · exact r1.trans c1.symm
  exact ⟨⟨St, a1, by rw [e]; exact h.2.1, relR_fr a3 (by unfold rPs rSc; omega) h.2.2.1, by rw [e]; exact h.2.2.2.1, h.2.2.2.2⟩, fr_mono (fun g hg => rPs_k hg) a3, by rw [e]; exact fr_rf, a2, ev⟩
theorem okS_none (hS : okS St) (d : Nat) : okS (upP St d none) := fun e A sg he hs => by
  by_cases ed : e = d
  · rw [ed, show upP St d none d = none from if_pos rfl] at hs
    cases hs
  · rw [show upP St d none e = St e from if_neg ed] at hs
    exact hS e A sg he hs
theorem b_drop (h : rel1 X z y St) (hM : gM y) : Te (fun K => qe_X13_drop K x z) (fun rr => Te (fun K => ce_X11_drop vl K 0 x y) (fun rc => bothZ X z y rr rc ∧ gM rc.2)) := by
  refine te_two (xq_drop h.1 h.2.2.1) (tc_drop2 hM) (fun rr rc hr hc => ?_)
  obtain ⟨a1, a2, a3, hr⟩ := hr
  obtain ⟨m1, hc⟩ := hc
  rcases hr with ⟨r1, r2, r3⟩ | ⟨r1, d, A, sg, d1, d2, d3, r3⟩
  · rcases hc with ⟨c1, d, A, sg, c, d1, d2, k1, k2, k3, -⟩ | ⟨c1, c2, c3⟩
    · exfalso
      have h9 := (h.2.2.2.1 d d1).1 (r2 d d1 d2)
      have hl : 0 < (clC sg A).2.length := by
        show 0 < (ucd sg 0 [] A).length
        rw [ucd_len]
        have := List.length_pos_iff.mpr k3
        omega
      have h30 := (okL_c (sg := sg) k2).2.2.1
      have hs2 : y.2.1 1002 d = nI (clC sg A).2.length := k1.2.1
      rw [hs2] at h9
      have := nI_inj9 (a := (clC sg A).2.length) (b := 0) (by omega) (by omega) h9
      omega
    · exact ⟨⟨⟨St, a1, m1.1, r3, by rw [c3]; exact h.2.2.2.1, h.2.2.2.2⟩, a3, by rw [c3]; exact fr_rf, a2, r1.trans c1.symm⟩, m1⟩
  · rcases hc with ⟨c1, d', A', sg', c, d1', d2', k1, k2, k3, c3⟩ | ⟨c1, c2, c3⟩
    · have ed : d = d' := nI_inj9 (by omega) (by omega) (d2.symm.trans d2')
      subst ed
      refine ⟨⟨⟨upP St d none, a1, m1.1, r3, fun e he => ?_, okS_none h.2.2.2.2 d⟩, a3, by rw [c3]; exact fr_I (by unfold uP; omega), a2, r1.trans c1.symm⟩, m1⟩
      rw [c3]
      by_cases ee : e = d
      · subst ee
        refine ⟨fun _ => po_usI_at, fun B sb h7 => ?_⟩
        rw [show upP St e none e = none from if_pos rfl] at h7
        cases h7
      · rw [show upP St d none e = St e from if_neg ee]
        refine ⟨fun h7 => rd_ne ee ((h.2.2.2.1 e he).1 h7), fun B sb h7 => ?_⟩
        have hC := (h.2.2.2.1 e he).2 B sb h7
        exact ⟨rd_ot (by omega) hC.1, rd_ne ee hC.2.1, fun i a hi => rd_ot (by omega) (hC.2.2 i a hi)⟩
    · exfalso
      have := (relC_len h.2.2.2.1 h.2.2.2.2 d1).mp (c2 d d1 d2)
      rw [this] at d3
      cases d3
end XB2
end
section
/-! 99zzzzzzzzzv.xbr -/
/-! exact calls: dropBraid, inverse, of both -/
def bdQ (g : Nat) : Prop := 13 ≤ g ∧ g ≤ 15
/-- the least free place of the braids -/
def lfB (F : Nat → Int32) (c : Nat) : Prop := c < 20 ∧ F c = 0 ∧ ∀ d, d < c → F d ≠ 0
def noB (F : Nat → Int32) (x : Int32) : Prop := ∀ b, b < 20 → x = nI b → F b = 0
/-- a braid was written at c; the arrays of words, lengths, strands are g, g + 1, g + 2 -/
def nwB (g : Nat) (z z1 : ow_MS) (c n l : Nat) (w : Nat → Int32) : Prop := z1.2.1 (g + 2) c = nI n ∧ z1.2.1 (g + 1) c = nI l ∧ (∀ i, i < l → z1.2.1 g (16 * c + i) = w i) ∧ ∀ d, d ≠ c → z1.2.1 (g + 2) d = z.2.1 (g + 2) d ∧ z1.2.1 (g + 1) d = z.2.1 (g + 1) d ∧ ∀ i, i < 16 → z1.2.1 g (16 * d + i) = z.2.1 g (16 * d + i)
/-- the braids of the reference and of the class -/
def relB (z y : ow_MS) : Prop := ∀ b, b < 20 → z.2.1 96 b = y.2.1 15 b ∧ (z.2.1 96 b ≠ 0 → z.2.1 95 b = y.2.1 14 b ∧ ∀ l, l ≤ 16 → z.2.1 95 b = nI l → ∀ i, i < l → z.2.1 94 (16 * b + i) = y.2.1 13 (16 * b + i))
theorem relB_new {z z1 y y1 : ow_MS} {c n l : Nat} {w w' : Nat → Int32} (h : relB z y) (hl : l ≤ 16) (hz : nwB 94 z z1 c n l w) (hy : nwB 13 y y1 c n l w') (hw : ∀ i, i < l → w i = w' i) : relB z1 y1 := fun b hb => by
  by_cases e : b = c
  · subst e
    refine ⟨hz.1.trans hy.1.symm, fun _ => ⟨hz.2.1.trans hy.2.1.symm, fun l' hl' e' i hi => ?_⟩⟩
    have el : l = l' := nI_inj9 (by omega) (by omega) (hz.2.1.symm.trans e')
    subst el
    rw [hz.2.2.1 i hi]
    exact (hw i hi).trans (hy.2.2.1 i hi).symm
  · obtain ⟨a1, a2, a3⟩ := hz.2.2.2 b e
    obtain ⟨b1, b2, b3⟩ := hy.2.2.2 b e
    obtain ⟨h1, h2⟩ := h b hb
    refine ⟨a1.trans (h1.trans b1.symm), fun h0 => ?_⟩
    obtain ⟨k1, k2⟩ := h2 (fun h9 => h0 (a1.trans h9))
    refine ⟨a2.trans (k1.trans b2.symm), fun l' hl' e' i hi => ?_⟩
    rw [a3 i (by omega), k2 l' hl' (a2.symm.trans e') i hi]
    exact (b3 i (by omega)).symm
theorem lfB_uni {F G : Nat → Int32} {c d : Nat} (hFG : ∀ b, b < 20 → F b = G b) (h1 : lfB F c) (h2 : lfB G d) : c = d := by
  rcases Nat.lt_trichotomy c d with q | q | q
  · exact absurd ((hFG c h1.1).symm.trans h1.2.1) (h2.2.2 c q)
  · exact q
  · exact absurd ((hFG d h2.1).trans h2.2.1) (h1.2.2 d q)
section XBR
variable {X : (Nat → Nat → Int32) → Prop} {z : ow_MS}
theorem w_hasBX {O : Type} {x : Int32} {Q : O → Prop} {B : Int32 → ow_MS → Nat → Nat → Option O} (h : gBrs z) (H0 : noB (z.2.1 96) x → Tt (B 0 z) Q) (H1 : ∀ b n l, b < 20 → x = nI b → hBr z b n l → Tt (B 1 z) Q) : Tt (fun K k => cs1 (qe_X13_hasBraid K x z) fun v z1 => B v z1 K k) Q := by
  have key : Te (fun K => qe_X13_hasBraid K x z) (fun r => r = (0, z) ∧ noB (z.2.1 96) x ∨ r = (1, z) ∧ ∃ b n l, b < 20 ∧ x = nI b ∧ hBr z b n l) := by
    refine e_X13_hasBraid ?_; unfold qm_X13_hasBraid_0
    refine w_if (fun h9 => w_okZ (Or.inl rfl) (w_some (Or.inl ⟨rfl, fun b hb e => ?_⟩))) (fun h0 => w_if (fun h9 => w_okZ (Or.inl rfl) (w_some (Or.inl ⟨rfl, fun b hb e => ?_⟩))) (fun h1 => ?_))
    · rw [e] at h9
      exact absurd h9 (nI_pos (by omega))
    · rw [e] at h9
      have := (nI_leI (a := 20) (b := b) (by omega) (by omega)).mp h9
      omega
    obtain ⟨b, hb, rfl⟩ : ∃ b, b < 20 ∧ x = nI b := by
      rcases pk_ix x (n := 20) (by omega) with h9 | h9 | h9
      · exact absurd h9 h0
      · exact absurd h9 h1
      · exact h9
    refine w_rdI ml96 rfl (by omega) rfl (w_if (fun h9 => w_okZ (Or.inl rfl) (w_some (Or.inl ⟨rfl, fun b' hb' e => ?_⟩))) (fun h9 => w_okZ (Or.inr rfl) (w_some (Or.inr ⟨rfl, ?_⟩))))
    · have eb : b = b' := nI_inj9 (by omega) (by omega) e
      subst eb
      rcases gBr_h (h b hb) with e | ⟨n, l, hh⟩
      · exact e
      · rw [hh.2.2.2.1] at h9
        exact absurd h9 (nI_nle (by have := hh.1; omega) (by have := hh.2.1; omega))
    · rcases gBr_h (h b hb) with e | ⟨n, l, hh⟩
      · rw [e] at h9
        exact absurd (by decide) h9
      · exact ⟨b, n, l, hb, rfl, hh⟩
  refine w_cs1 key (fun a z1 e => ?_)
  rcases e with ⟨e, h8⟩ | ⟨e, b, n, l, hb, hx, hh⟩
  · cases e
    exact H0 h8
  · cases e
    exact H1 b n l hb hx hh
theorem w_freeBX {O : Type} {Q : O → Prop} {B : Int32 → ow_MS → Nat → Nat → Option O} (h : gBrs z) (H0 : (∀ c, c < 20 → z.2.1 96 c ≠ 0) → Tt (B (-1) z) Q) (H1 : ∀ c, lfB (z.2.1 96) c → Tt (B (nI c) z) Q) : Tt (fun K k => cs1 (qe_X13_freeBraid K z) fun v z1 => B v z1 K k) Q := by
  have key : Te (fun K => qe_X13_freeBraid K z) (fun r => r = (-1, z) ∧ (∀ c, c < 20 → z.2.1 96 c ≠ 0) ∨ ∃ c, r = (nI c, z) ∧ lfB (z.2.1 96) c) := by
    have lp : ∀ (k c : Nat), c + k = 20 → (∀ d, d < c → z.2.1 96 d ≠ 0) → Tt (fun K i => q_X13_freeBraid K i 1 (nI c) z) (fun r => r = (-1, z) ∧ (∀ c, c < 20 → z.2.1 96 c ≠ 0) ∨ ∃ c, r = (nI c, z) ∧ lfB (z.2.1 96) c) := by
      intro k
      induction k with
      | zero =>
        intro c hc hall
        refine u_X13_freeBraid_1 ?_; unfold qm_X13_freeBraid_1
        refine w_leT (a := 20) (by omega) (by omega) ?_
        refine u_X13_freeBraid_2 ?_; unfold qm_X13_freeBraid_2
        exact w_leT (a := 20) (by omega) (by omega) (w_some (Or.inl ⟨rfl, fun d hd => hall d (by omega)⟩))
      | succ k ih =>
        intro c hc hall
        refine u_X13_freeBraid_1 ?_; unfold qm_X13_freeBraid_1
        rw [nI_1]
        refine w_leF (a := 20) (by omega) (by omega) (w_rdI ml96 rfl (by omega) rfl (w_if (fun h9 => ?_) (fun h9 => ih (c + 1) (by omega) (fun d hd => ?_))))
        · refine u_X13_freeBraid_2 ?_; unfold qm_X13_freeBraid_2
          refine w_leF (a := 20) (by omega) (by omega) (w_some (Or.inr ⟨c, rfl, by omega, ?_, hall⟩))
          rcases gBr_h (h c (by omega)) with e | ⟨n, l, hh⟩
          · exact e
          · rw [hh.2.2.2.1] at h9
            exact absurd h9 (nI_nle (by have := hh.1; omega) (by have := hh.2.1; omega))
        · by_cases e : d = c
          · rw [e]
            intro e0
            rw [e0] at h9
            exact absurd (by decide) h9
          · exact hall d (by omega)
    refine e_X13_freeBraid ?_
    refine u_X13_freeBraid_0 ?_; unfold qm_X13_freeBraid_0
    exact lp 20 0 (by omega) (fun d hd => by omega)
  refine w_cs1 key (fun a z1 e => ?_)
  rcases e with ⟨e, h8⟩ | ⟨c, e, h9⟩
  · cases e
    exact H0 h8
  · cases e
    exact H1 c h9
theorem xq_inverse {x : Int32} (h : gI X z) : Te (fun K => qe_X13_inverse K x z) (fun r => rFl X z 1 r ∧ noB (z.2.1 96) x ∨ ∃ a n l, a < 20 ∧ x = nI a ∧ hBr z a n l ∧ (rFl X z 2 r ∧ (∀ c, c < 20 → z.2.1 96 c ≠ 0) ∨ ∃ c, lfB (z.2.1 96) c ∧ r.1 = nI c ∧ gI X r.2 ∧ r.2.1 1 = 0 ∧ fr (fun g => g = 1 ∨ 94 ≤ g ∧ g ≤ 96) z r.2 ∧ nwB 94 z r.2 c n l (fun i => 0 - z.2.1 94 (16 * a + (l - 1 - i))))) := by
  let Q : Int32 × ow_MS → Prop := fun r => rFl X z 1 r ∧ noB (z.2.1 96) x ∨ ∃ a n l, a < 20 ∧ x = nI a ∧ hBr z a n l ∧ (rFl X z 2 r ∧ (∀ c, c < 20 → z.2.1 96 c ≠ 0) ∨ ∃ c, lfB (z.2.1 96) c ∧ r.1 = nI c ∧ gI X r.2 ∧ r.2.1 1 = 0 ∧ fr (fun g => g = 1 ∨ 94 ≤ g ∧ g ≤ 96) z r.2 ∧ nwB 94 z r.2 c n l (fun i => 0 - z.2.1 94 (16 * a + (l - 1 - i))))
  have h1 := gI_1 (c := 0) h
  have hB := h1.2.2.2.2.2.1
  refine e_X13_inverse ?_
  refine u_X13_inverse_0 ?_; unfold qm_X13_inverse_0
  refine w_wrF (w_hasBX hB (fun h0 => w_ifT rfl (w_mono (w_failX h1 fr_1) (fun r hr => Or.inl ⟨hr, h0⟩))) (fun a9 n l ha hx hh => w_ifF (by decide) (w_freeBX hB (fun h0 => w_ifT rfl (w_mono (w_failX (k := 2) h1 fr_1) (fun r hr => Or.inr ⟨a9, n, l, ha, hx, hh, Or.inl ⟨hr, h0⟩⟩))) (fun c hlf => w_ifF (rn_neg1 (by have := hlf.1; omega)) ?_))))
  subst hx
  have hh0 := hh
  obtain ⟨p1, p2, p3, p4, p5, p6⟩ := hh
  have hc := hlf.1
  have hca : c ≠ a9 := fun e => by
    have hc0 := hlf.2.1
    rw [e, p4] at hc0
    exact nI_ne0 (by omega) (by omega) hc0
  have main : ∀ (k i : Nat) (y : ow_MS), i + k = l → fr (fun g => g = 94) (usF z 1 0) y → (∀ d, d ≠ c → ∀ j, j < 16 → y.2.1 94 (16 * d + j) = (usF z 1 0).2.1 94 (16 * d + j)) → (∀ j, j < i → ltr n (y.2.1 94 (16 * c + j))) → (∀ j, j < i → y.2.1 94 (16 * c + j) = 0 - z.2.1 94 (16 * a9 + (l - 1 - j))) → Tt (fun K k9 => q_X13_inverse K k9 1 (nI a9) (nI c) (nI i) y) Q := by
    intro k
    induction k with
    | zero =>
      intro i y hi hf hw hl hv
      have e5 := (hf 95 (by omega)).2.1
      have e6 := (hf 96 (by omega)).2.1
      have r5 : y.2.1 95 a9 = nI l := by rw [e5]; exact p5
      have r6 : y.2.1 96 a9 = nI n := by rw [e6]; exact p4
      refine u_X13_inverse_1 ?_; unfold qm_X13_inverse_1
      refine w_rdI ml95 rfl (by omega) r5 (w_leT (by omega) (by omega) (w_rdI ml95 rfl (by omega) r5 (w_wrI ml95 rfl (by omega) (w_rdI ml96 rfl (by omega) (rd_ot (by decide) r6) (w_wrI ml96 rfl (by omega) (w_some ?_))))))
      have f3 : fr (fun g => g = 94 ∨ g = 95 ∨ g = 96) (usF z 1 0) (usI (usI y 95 c (nI l)) 96 c (nI n)) := fr_I2 (fr_I2 (fr_mono (fun g hg => Or.inl hg) hf) (Or.inr (Or.inl rfl))) (Or.inr (Or.inr rfl))
      have e4 : (usI (usI y 95 c (nI l)) 96 c (nI n)).2.1 94 = y.2.1 94 := by rw [po_usI_ot (by decide), po_usI_ot (by decide)]
      have k5 : (usI (usI y 95 c (nI l)) 96 c (nI n)).2.1 95 c = nI l := rd_ot (by decide) po_usI_at
      refine Or.inr ⟨a9, n, l, ha, rfl, hh0, Or.inr ⟨c, hlf, rfl, gI_br f3 (fun g hg => Or.inl (by omega)) (gBrs_new hB (c := c) (n := n) (l := l) ⟨p1, p2, p3, po_usI_at, k5, fun j hj => ?_⟩ (fun d hd => ?_) (fun d hd => ?_) (fun d hd j hj => ?_)) h1, ?_, fr_tr (fr_F (Or.inl rfl)) (fr_mono (fun g hg => by omega) f3), po_usI_at, k5, fun j hj => ?_, fun d hd => ⟨?_, ?_, fun j hj => ?_⟩⟩⟩
      · rw [e4]
        exact hl j (by omega)
      · rw [po_usI_ne hd, po_usI_ot (by decide), e6]
      · rw [po_usI_ot (by decide), po_usI_ne hd, e5]
      · rw [e4]
        exact hw d hd j hj
      · show (usI (usI y 95 c (nI l)) 96 c (nI n)).1 1 = 0
        rw [(f3 1 (by omega)).1]
        exact po_usF_at
      · show (usI (usI y 95 c (nI l)) 96 c (nI n)).2.1 94 (16 * c + j) = _
        rw [e4]
        exact hv j (by omega)
      · show (usI (usI y 95 c (nI l)) 96 c (nI n)).2.1 96 d = _
        rw [po_usI_ne hd, po_usI_ot (by decide), e6]
        rfl
      · show (usI (usI y 95 c (nI l)) 96 c (nI n)).2.1 95 d = _
        rw [po_usI_ot (by decide), po_usI_ne hd, e5]
        rfl
      · show (usI (usI y 95 c (nI l)) 96 c (nI n)).2.1 94 (16 * d + j) = _
        rw [e4]
        exact hw d hd j hj
    | succ k ih =>
      intro i y hi hf hw hl hv
      have e5 := (hf 95 (by omega)).2.1
      have r5 : y.2.1 95 a9 = nI l := by rw [e5]; exact p5
      have rv : y.2.1 94 (16 * a9 + l - 1 - i) = z.2.1 94 (16 * a9 + (l - 1 - i)) := by
        rw [show 16 * a9 + l - 1 - i = 16 * a9 + (l - 1 - i) by omega, hw a9 (fun e => hca e.symm) _ (by omega)]
        rfl
      refine u_X13_inverse_1 ?_; unfold qm_X13_inverse_1
      refine w_rdI ml95 rfl (by omega) r5 (w_leF (by omega) (by omega) (w_rdI ml95 rfl (by omega) r5 ?_))
      rw [show (16 : Int32) * nI a9 = nI (16 * a9) from pk_mul 16 a9, nI_add, show nI (16 * a9 + l) - 1 = nI (16 * a9 + l - 1) from pk_sub (b := 1) (by omega), pk_sub (by omega), show (16 : Int32) * nI c = nI (16 * c) from pk_mul 16 c, nI_add, nI_1]
      refine w_rdI ml94 rfl (by omega) rv (w_wrI ml94 rfl (by omega) (ih (i + 1) _ (by omega) (fr_I2 hf rfl) (fun d hd j hj => rd_ne (by omega) (hw d hd j hj)) (fun j hj => ?_) (fun j hj => ?_)))
      · by_cases hji : j = i
        · rw [hji, po_usI_at]
          exact ltr_neg (p6 _ (by omega))
        · rw [po_usI_ne (by omega)]
          exact hl j (by omega)
      · by_cases hji : j = i
        · rw [hji, po_usI_at]
        · rw [po_usI_ne (by omega)]
          exact hv j (by omega)
  exact main l 0 (usF z 1 0) (by omega) fr_rf (fun _ _ _ _ => rfl) (fun j hj => by omega) (fun j hj => by omega)
end XBR
end
section
/-! 99zzzzzzzzzw.xin -/
/-! both sides: inverse -/
section XIC
variable {vl : Nat → Nat} {y : ow_MS} {x x' : Int32}
theorem xc_inverse (hB : brC y) : Te (fun K => ce_X11_inverse vl K 0 x y) (fun r => (r.1 = 1 ∧ r.2.2 = y ∧ noB (y.2.1 15) x ∨ ∃ b n l, b < 20 ∧ x = nI b ∧ 2 ≤ n ∧ n ≤ 5 ∧ y.2.1 15 b = nI n ∧ l ≤ 16 ∧ y.2.1 14 b = nI l ∧ (r.1 = 3 ∧ r.2.2 = y ∧ (∀ c, c < 20 → y.2.1 15 c ≠ 0) ∨ r.1 = 0 ∧ ∃ c, lfB (y.2.1 15) c ∧ r.2.1 = nI c ∧ brC r.2.2 ∧ fr bdQ y r.2.2 ∧ nwB 13 y r.2.2 c n l (fun i => -(y.2.1 13 (16 * b + (l - 1 - i))))))) := by
  let Q0 : ow_MS → Int32 → Nat × Int32 × ow_MS → Prop := fun y x r => (r.1 = 1 ∧ r.2.2 = y ∧ noB (y.2.1 15) x ∨ ∃ b n l, b < 20 ∧ x = nI b ∧ 2 ≤ n ∧ n ≤ 5 ∧ y.2.1 15 b = nI n ∧ l ≤ 16 ∧ y.2.1 14 b = nI l ∧ (r.1 = 3 ∧ r.2.2 = y ∧ (∀ c, c < 20 → y.2.1 15 c ≠ 0) ∨ r.1 = 0 ∧ ∃ c, lfB (y.2.1 15) c ∧ r.2.1 = nI c ∧ brC r.2.2 ∧ fr bdQ y r.2.2 ∧ nwB 13 y r.2.2 c n l (fun i => -(y.2.1 13 (16 * b + (l - 1 - i))))))
  refine e_X11_inverse ?_
  refine u_X11_inverse_0 ?_; unfold cm_X11_inverse_0
  refine w_tc0 (tc_needBraid (brC_E hB)) ?_ ?_
  · rintro y1 ⟨h1, rfl⟩
    rcases h1 with ⟨-, hb⟩ | h1
    · obtain ⟨b, n, l, hb20, rfl, hn2, hn5, e15, l16, e14, hw⟩ := isB_w hB hb
      refine w_tc1 tc_freeBraid ?_ ?_
      · rintro v y2 ⟨h2, rfl⟩
        rcases h2 with ⟨d, hd, -, rfl, e0, eall⟩ | h2
        · have hbd : b ≠ d := fun e => by
            rw [e, e0] at e15
            have := nI_inj9 (a := 0) (b := n) (by omega) (by omega) e15
            omega
          have c1 : ∀ (k i : Nat) (z : ow_MS), i + k = l → fr (fun g => g = 13) y2 z → (∀ k, k < 16 * d ∨ 16 * d + 16 ≤ k → z.2.1 13 k = y2.2.1 13 k) → wdB z d n i → (∀ j, j < i → z.2.1 13 (16 * d + j) = -(y2.2.1 13 (16 * b + (l - 1 - j)))) → Tt (fun K t => c_X11_inverse vl K t 1 (nI b) (nI d) (nI l) (nI i) 0 z) (Q0 y2 (nI b)) := by
            intro k
            induction k with
            | zero =>
              intro i z hi hf hk hwi hv
              have e : i = l := by omega
              subst e
              have z4 : z.2.1 14 = y2.2.1 14 := (hf 14 (by omega)).2.1
              have z5 : z.2.1 15 = y2.2.1 15 := (hf 15 (by omega)).2.1
              refine u_X11_inverse_1 ?_; unfold cm_X11_inverse_1
              refine w_leT (by omega) (by omega) (w_ctI ch_14 rfl hd (w_crI ch_15 rfl hb20 (rd_ot (by omega) ((congrFun z5 b).trans e15)) (w_ctI ch_15 rfl hd (w_some (Or.inr ⟨b, n, i, hb20, rfl, hn2, hn5, e15, l16, e14, Or.inr ⟨rfl, d, ⟨hd, e0, eall⟩, rfl, ?_, fr_I2 (fr_I2 (fr_mono (fun g hg => by rw [hg]; unfold bdQ; omega) hf) (by unfold bdQ; omega)) (by unfold bdQ; omega), po_usI_at, rd_ot (by omega) po_usI_at, fun j hj => rd_ot (by omega) (rd_ot (by omega) (hv j hj)), fun e he => ⟨rd_ne he (rd_ot (by omega) (congrFun z5 e)), rd_ot (by omega) (rd_ne he (congrFun z4 e)), fun j hj => rd_ot (by omega) (rd_ot (by omega) (hk _ (by omega)))⟩⟩⟩)))))
              refine brC_put (n := n) (l := i) hd hB (fun k hk9 => rd_ot (by omega) (rd_ot (by omega) (hk k hk9))) (fun k hk9 => rd_ot (by omega) (rd_ne hk9 (congrFun z4 k))) (fun k hk9 => rd_ne hk9 (rd_ot (by omega) (congrFun z5 k))) ⟨hn5, by omega⟩ po_usI_at (fun _ => ⟨l16, rd_ot (by omega) po_usI_at, fun j hj => ?_⟩)
              obtain ⟨a, a1, a2, a3⟩ := hwi j hj
              exact ⟨a, rd_ot (by omega) (rd_ot (by omega) a1), a2, a3⟩
            | succ k ih =>
              intro i z hi hf hk hwi hv
              obtain ⟨a, a1, a2, a3⟩ := hw (l - 1 - i) (by omega)
              have ea : z.2.1 13 (16 * b + l - 1 - i) = iI a := by
                rw [hk _ (by omega), show 16 * b + l - 1 - i = 16 * b + (l - 1 - i) by omega]
                exact a1
              refine u_X11_inverse_1 ?_; unfold cm_X11_inverse_1
              rw [m16, m16, nI_add, show nI (16 * b + l) - 1 = nI (16 * b + l - 1) from pk_sub (b := 1) (by omega), show nI (16 * b + l - 1) - nI i = nI (16 * b + l - 1 - i) from pk_sub (by omega), nI_add]
              refine w_leF (by omega) (by omega) (w_crI ch_13 rfl (show 16 * b + l - 1 - i < 320 by omega) ea (w_ctB ch_13 rfl (show 16 * d + i < 320 by omega) ?_))
              rw [(lt_a (a := a) (by omega)).2.2, (lt_a (a := -a) (by omega)).1, nI_1]
              refine ih (i + 1) _ (by omega) (fr_I2 hf rfl) (fun j hj => rd_ne (by omega) (hk j hj)) (fun j hj => ?_) (fun j hj => ?_)
              · by_cases e : j = i
                · rw [e]
                  exact ⟨-a, po_usI_at, by omega, by omega⟩
                · obtain ⟨a', q1, q2, q3⟩ := hwi j (by omega)
                  exact ⟨a', rd_ne (by omega) q1, q2, q3⟩
              · by_cases e : j = i
                · rw [e, a1, (lt_a (a := a) (by omega)).2.2]
                  exact po_usI_at
                · exact rd_ne (by omega) (hv j (by omega))
          exact w_crI ch_14 rfl hb20 e14 (c1 l 0 y2 (by omega) fr_rf (fun _ _ => rfl) (fun i hi => absurd hi (Nat.not_lt_zero _)) (fun i hi => absurd hi (Nat.not_lt_zero _)))
        · exact absurd (show (0 : Nat) = 3 from h2.1) (by decide)
      · rintro a v y2 ha ⟨h2, rfl⟩
        rcases h2 with ⟨d, -, q, -⟩ | h2
        · exact absurd q ha
        · exact w_some (Or.inr ⟨b, n, l, hb20, rfl, hn2, hn5, e15, l16, e14, Or.inl ⟨h2.1, rfl, h2.2⟩⟩)
    · exact absurd (show (0 : Nat) = 1 from h1.1) (by decide)
  · rintro a y1 ha ⟨h1, rfl⟩
    rcases h1 with h1 | h1
    · exact absurd h1.1 ha
    · exact w_some (Or.inl ⟨h1.1, rfl, h1.2⟩)
theorem noB_iff {z y : ow_MS} (h : relB z y) (hn : noB (z.2.1 96) x) : noB (y.2.1 15) x := fun b hb e => (h b hb).1.symm.trans (hn b hb e)
theorem b_inverse {X : (Nat → Nat → Int32) → Prop} {z : ow_MS} (hz : gI X z) (hB : brC y) (h : relB z y) : Te (fun K => qe_X13_inverse K x z) (fun rr => Te (fun K => ce_X11_inverse vl K 0 x y) (fun rc => relB rr.2 rc.2.2 ∧ gI X rr.2 ∧ brC rc.2.2 ∧ fr (fun g => rPs g ∨ 94 ≤ g ∧ g ≤ 96) z rr.2 ∧ fr bdQ y rc.2.2 ∧ ansI [(1, 1), (2, 3)] rr rc)) := by
  refine te_two (xq_inverse hz) (xc_inverse hB) (fun rr rc hr hc => ?_)
  have keep : ∀ {k : Nat}, rFl X z k rr → rc.2.2 = y → relB rr.2 rc.2.2 := fun hf e b hb => by
    have e6 := (hf.2.2 96 (by unfold rPs rSc; omega)).2.1
    have e5 := (hf.2.2 95 (by unfold rPs rSc; omega)).2.1
    have e4 := (hf.2.2 94 (by unfold rPs rSc; omega)).2.1
    rw [e, e6, e5, e4]
    exact h b hb
  have fail : ∀ {j k : Nat}, rFl X z j rr → (j, k) ∈ [(1, 1), (2, 3)] → rc.1 = k → rc.2.2 = y → relB rr.2 rc.2.2 ∧ gI X rr.2 ∧ brC rc.2.2 ∧ fr (fun g => rPs g ∨ 94 ≤ g ∧ g ≤ 96) z rr.2 ∧ fr bdQ y rc.2.2 ∧ ansI [(1, 1), (2, 3)] rr rc := fun {j k} hf hm e1 e2 => ⟨keep hf e2, hf.1, by rw [e2]; exact hB, fr_mono (fun g hg => Or.inl hg) hf.2.2, by rw [e2]; exact fr_rf, Or.inr ⟨j, k, hm, hf.2.1, e1⟩⟩
  rcases hr with ⟨r1, r2⟩ | ⟨a, n, l, a1, a2, a3, hr⟩
  · rcases hc with ⟨c1, c2, -⟩ | ⟨b, n, l, b1, b2, b3, b4, b5, -⟩
    · exact fail r1 (by simp) c1 c2
    · have := noB_iff h r2 b b1 b2
      rw [b5] at this
      exact absurd this (nI_ne0 (by omega) (by omega))
  · have n2 := a3.1
    have n5 := a3.2.1
    rcases hc with ⟨-, -, c3⟩ | ⟨b, n', l', b1, b2, b3, b4, b5, b6, b7, hc⟩
    · have := c3 a a1 a2
      rw [← (h a a1).1, a3.2.2.2.1] at this
      exact absurd this (nI_ne0 (by omega) (by omega))
    · have eab : a = b := nI_inj9 (by omega) (by omega) (a2.symm.trans b2)
      subst eab
      obtain ⟨k1, k2⟩ := h a a1
      have en : n = n' := nI_inj9 (by omega) (by omega) (a3.2.2.2.1.symm.trans (k1.trans b5))
      subst en
      obtain ⟨k3, k4⟩ := k2 (by rw [a3.2.2.2.1]; exact nI_ne0 (by omega) (by omega))
      have l16 := a3.2.2.1
      have el : l = l' := nI_inj9 (by omega) (by omega) (a3.2.2.2.2.1.symm.trans (k3.trans b7))
      subst el
      rcases hr with ⟨r1, r2⟩ | ⟨c, r1, r2, r3, r4, r5, r6⟩
      · rcases hc with ⟨c1, c2, -⟩ | ⟨-, c, c1, -⟩
        · exact fail r1 (by simp) c1 c2
        · exact absurd ((h c c1.1).1.trans c1.2.1) (r2 c c1.1)
      · rcases hc with ⟨-, -, c3⟩ | ⟨c0, c', c1, c2, c3, c4, c5⟩
        · exact absurd ((h c r1.1).1.symm.trans r1.2.1) (c3 c r1.1)
        · have ec := lfB_uni (fun b hb => (h b hb).1) r1 c1
          subst ec
          refine ⟨relB_new h l16 r6 c5 (fun i hi => ?_), r3, c3, fr_mono (fun g hg => ?_) r5, c4, Or.inl ⟨r4, c0, r2.trans c2.symm⟩⟩
          · show 0 - z.2.1 94 (16 * a + (l - 1 - i)) = -(y.2.1 13 (16 * a + (l - 1 - i)))
            rw [k4 l l16 a3.2.2.2.2.1 (l - 1 - i) (by omega), Int32.zero_sub]
          · rcases hg with hg | hg
            · exact Or.inl (Or.inl hg)
            · exact Or.inr hg
end XIC
end
section
/-! 99zzzzzzzzzx.xpr -/
/-! exact calls: product -/
def wpr (z : ow_MS) (g a l b i : Nat) : Int32 := if i < l then z.2.1 g (16 * a + i) else z.2.1 g (16 * b + (i - l))
section XPR
variable {X : (Nat → Nat → Int32) → Prop} {z : ow_MS}
theorem xq_product {a b : Int32} (h : gI X z) : Te (fun K => qe_X13_product K a b z) (fun r => (rFl X z 1 r ∧ (noB (z.2.1 96) a ∨ noB (z.2.1 96) b) ∨ ∃ a9 n l b9 n2 l2, a9 < 20 ∧ a = nI a9 ∧ hBr z a9 n l ∧ b9 < 20 ∧ b = nI b9 ∧ hBr z b9 n2 l2 ∧ (rFl X z 2 r ∧ n ≠ n2 ∨ n = n2 ∧ (rFl X z 3 r ∧ 16 < l + l2 ∨ l + l2 ≤ 16 ∧ (rFl X z 4 r ∧ (∀ c, c < 20 → z.2.1 96 c ≠ 0) ∨ ∃ c, lfB (z.2.1 96) c ∧ r.1 = nI c ∧ gI X r.2 ∧ r.2.1 1 = 0 ∧ fr (fun g => g = 1 ∨ 94 ≤ g ∧ g ≤ 96) z r.2 ∧ nwB 94 z r.2 c n (l + l2) (wpr z 94 a9 l b9)))))) := by
  let Q : Int32 × ow_MS → Prop := fun r => (rFl X z 1 r ∧ (noB (z.2.1 96) a ∨ noB (z.2.1 96) b) ∨ ∃ a9 n l b9 n2 l2, a9 < 20 ∧ a = nI a9 ∧ hBr z a9 n l ∧ b9 < 20 ∧ b = nI b9 ∧ hBr z b9 n2 l2 ∧ (rFl X z 2 r ∧ n ≠ n2 ∨ n = n2 ∧ (rFl X z 3 r ∧ 16 < l + l2 ∨ l + l2 ≤ 16 ∧ (rFl X z 4 r ∧ (∀ c, c < 20 → z.2.1 96 c ≠ 0) ∨ ∃ c, lfB (z.2.1 96) c ∧ r.1 = nI c ∧ gI X r.2 ∧ r.2.1 1 = 0 ∧ fr (fun g => g = 1 ∨ 94 ≤ g ∧ g ≤ 96) z r.2 ∧ nwB 94 z r.2 c n (l + l2) (wpr z 94 a9 l b9)))))
  have h1 := gI_1 (c := 0) h
  have hB := h1.2.2.2.2.2.1
  have c1 : (noB (z.2.1 96) a ∨ noB (z.2.1 96) b) → Tt (fun K k => q_X13_product K k 1 a b 0 0 0 0 (usF z 1 0)) Q := by
    intro hno
    refine u_X13_product_1 ?_; unfold qm_X13_product_1
    exact w_mono (w_failX (k := 1) h1 fr_1) (fun r hr => Or.inl ⟨hr, hno⟩)
  refine e_X13_product ?_
  refine u_X13_product_0 ?_; unfold qm_X13_product_0
  refine w_wrF (w_hasBX hB (fun h0 => w_ifT rfl (c1 (Or.inl h0))) (fun a9 n l ha hx hh => w_ifF (by decide) (w_hasBX hB (fun h0 => w_ifT rfl (c1 (Or.inr h0))) (fun b9 n2 l2 hb hy hh2 => w_ifF (by decide) ?_))))
  subst hx
  subst hy
  have hh0 := hh
  have hh20 := hh2
  have fin : ∀ {r}, (rFl X z 2 r ∧ n ≠ n2 ∨ n = n2 ∧ (rFl X z 3 r ∧ 16 < l + l2 ∨ l + l2 ≤ 16 ∧ (rFl X z 4 r ∧ (∀ c, c < 20 → z.2.1 96 c ≠ 0) ∨ ∃ c, lfB (z.2.1 96) c ∧ r.1 = nI c ∧ gI X r.2 ∧ r.2.1 1 = 0 ∧ fr (fun g => g = 1 ∨ 94 ≤ g ∧ g ≤ 96) z r.2 ∧ nwB 94 z r.2 c n (l + l2) (wpr z 94 a9 l b9)))) → Q r := fun hr => Or.inr ⟨a9, n, l, b9, n2, l2, ha, rfl, hh0, hb, rfl, hh20, hr⟩
  obtain ⟨p1, p2, p3, p4, p5, p6⟩ := hh
  obtain ⟨q1, q2, q3, q4, q5, q6⟩ := hh2
  refine w_rdI ml96 rfl (by omega) p4 (w_rdI ml96 rfl (by omega) q4 (w_eqN (by omega) (by omega) (fun hnn => w_rdI ml95 rfl (by omega) p5 (w_rdI ml95 rfl (by omega) q5 ?_)) (fun hnn => w_mono (w_failX (k := 2) h1 fr_1) (fun r hr => fin (Or.inl ⟨hr, hnn⟩)))))
  subst hnn
  rw [nI_add]
  refine w_le (b := 16) (by omega) (by omega) (fun h16 => w_freeBX hB (fun h0 => w_ifT rfl (w_mono (w_failX (k := 4) h1 fr_1) (fun r hr => fin (Or.inr ⟨rfl, Or.inr ⟨h16, Or.inl ⟨hr, h0⟩⟩⟩)))) (fun c hlf => w_ifF (rn_neg1 (by have := hlf.1; omega)) ?_)) (fun h16 => w_mono (w_failX (k := 3) h1 fr_1) (fun r hr => fin (Or.inr ⟨rfl, Or.inl ⟨hr, by omega⟩⟩)))
  have hc := hlf.1
  have hc0 := hlf.2.1
  have hca : c ≠ a9 := fun e => by
    rw [e, p4] at hc0
    exact nI_ne0 (by omega) (by omega) hc0
  have hcb : c ≠ b9 := fun e => by
    rw [e, q4] at hc0
    exact nI_ne0 (by omega) (by omega) hc0
  have main : ∀ (k i : Nat) (y : ow_MS), i + k = l + l2 → fr (fun g => g = 94) (usF z 1 0) y → (∀ d, d ≠ c → ∀ j, j < 16 → y.2.1 94 (16 * d + j) = (usF z 1 0).2.1 94 (16 * d + j)) → (∀ j, j < i → ltr n (y.2.1 94 (16 * c + j))) → (∀ j, j < i → y.2.1 94 (16 * c + j) = wpr z 94 a9 l b9 j) → Tt (fun K k9 => q_X13_product K k9 2 (nI a9) (nI b9) (nI c) (nI i) 0 0 y) Q := by
    intro k
    induction k with
    | zero =>
      intro i y hi hf hw hl hv
      have e5 := (hf 95 (by omega)).2.1
      have e6 := (hf 96 (by omega)).2.1
      have r5 : y.2.1 95 a9 = nI l := by rw [e5]; exact p5
      have s5 : y.2.1 95 b9 = nI l2 := by rw [e5]; exact q5
      have r6 : y.2.1 96 a9 = nI n := by rw [e6]; exact p4
      refine u_X13_product_2 ?_; unfold qm_X13_product_2
      refine w_rdI ml95 rfl (by omega) r5 (w_rdI ml95 rfl (by omega) s5 ?_)
      rw [nI_add]
      refine w_leT (by omega) (by omega) (w_rdI ml95 rfl (by omega) r5 (w_rdI ml95 rfl (by omega) s5 ?_))
      rw [nI_add]
      refine w_wrI ml95 rfl (by omega) (w_rdI ml96 rfl (by omega) (rd_ot (by decide) r6) (w_wrI ml96 rfl (by omega) (w_some ?_)))
      have f3 : fr (fun g => g = 94 ∨ g = 95 ∨ g = 96) (usF z 1 0) (usI (usI y 95 c (nI (l + l2))) 96 c (nI n)) := fr_I2 (fr_I2 (fr_mono (fun g hg => Or.inl hg) hf) (Or.inr (Or.inl rfl))) (Or.inr (Or.inr rfl))
      have e4 : (usI (usI y 95 c (nI (l + l2))) 96 c (nI n)).2.1 94 = y.2.1 94 := by rw [po_usI_ot (by decide), po_usI_ot (by decide)]
      have k5 : (usI (usI y 95 c (nI (l + l2))) 96 c (nI n)).2.1 95 c = nI (l + l2) := rd_ot (by decide) po_usI_at
      refine fin (Or.inr ⟨rfl, Or.inr ⟨h16, Or.inr ⟨c, hlf, rfl, gI_br f3 (fun g hg => Or.inl (by omega)) (gBrs_new hB (c := c) (n := n) (l := l + l2) ⟨p1, p2, by omega, po_usI_at, k5, fun j hj => ?_⟩ (fun d hd => ?_) (fun d hd => ?_) (fun d hd j hj => ?_)) h1, ?_, fr_tr (fr_F (Or.inl rfl)) (fr_mono (fun g hg => by omega) f3), po_usI_at, k5, fun j hj => ?_, fun d hd => ⟨?_, ?_, fun j hj => ?_⟩⟩⟩⟩)
      · rw [e4]
        exact hl j (by omega)
      · rw [po_usI_ne hd, po_usI_ot (by decide), e6]
      · rw [po_usI_ot (by decide), po_usI_ne hd, e5]
      · rw [e4]
        exact hw d hd j hj
      · show (usI (usI y 95 c (nI (l + l2))) 96 c (nI n)).1 1 = 0
        rw [(f3 1 (by omega)).1]
        exact po_usF_at
      · show (usI (usI y 95 c (nI (l + l2))) 96 c (nI n)).2.1 94 (16 * c + j) = _
        rw [e4]
        exact hv j (by omega)
      · show (usI (usI y 95 c (nI (l + l2))) 96 c (nI n)).2.1 96 d = _
        rw [po_usI_ne hd, po_usI_ot (by decide), e6]
        rfl
      · show (usI (usI y 95 c (nI (l + l2))) 96 c (nI n)).2.1 95 d = _
        rw [po_usI_ot (by decide), po_usI_ne hd, e5]
        rfl
      · show (usI (usI y 95 c (nI (l + l2))) 96 c (nI n)).2.1 94 (16 * d + j) = _
        rw [e4]
        exact hw d hd j hj
    | succ k ih =>
      intro i y hi hf hw hl hv
      have e5 := (hf 95 (by omega)).2.1
      have r5 : y.2.1 95 a9 = nI l := by rw [e5]; exact p5
      have s5 : y.2.1 95 b9 = nI l2 := by rw [e5]; exact q5
      have c3 : ∀ t0 : Int32, ltr n t0 → t0 = wpr z 94 a9 l b9 i → Tt (fun K k9 => q_X13_product K k9 3 (nI a9) (nI b9) (nI c) (nI i) t0 (nI (16 * c + i)) y) Q := by
        intro t0 ht0 ht1
        refine u_X13_product_3 ?_; unfold qm_X13_product_3
        rw [nI_1]
        refine w_wrI ml94 rfl (by omega) (ih (i + 1) _ (by omega) (fr_I2 hf rfl) (fun d hd j hj => rd_ne (by omega) (hw d hd j hj)) (fun j hj => ?_) (fun j hj => ?_))
        · by_cases hji : j = i
          · rw [hji, po_usI_at]
            exact ht0
          · rw [po_usI_ne (by omega)]
            exact hl j (by omega)
        · by_cases hji : j = i
          · rw [hji, po_usI_at]
            exact ht1
          · rw [po_usI_ne (by omega)]
            exact hv j (by omega)
      refine u_X13_product_2 ?_; unfold qm_X13_product_2
      refine w_rdI ml95 rfl (by omega) r5 (w_rdI ml95 rfl (by omega) s5 ?_)
      rw [nI_add, show (16 : Int32) * nI c = nI (16 * c) from pk_mul 16 c, nI_add, show (16 : Int32) * nI b9 = nI (16 * b9) from pk_mul 16 b9, nI_add, show (16 : Int32) * nI a9 = nI (16 * a9) from pk_mul 16 a9, nI_add]
      refine w_leF (by omega) (by omega) (w_rdI ml95 rfl (by omega) r5 (w_le (by omega) (by omega) (fun h9 => w_rdI ml95 rfl (by omega) r5 ?_) (fun h9 => ?_)))
      · rw [pk_sub (by omega)]
        have e9 : y.2.1 94 (16 * b9 + i - l) = z.2.1 94 (16 * b9 + (i - l)) := by
          rw [show 16 * b9 + i - l = 16 * b9 + (i - l) by omega, hw b9 (fun e => hcb e.symm) _ (by omega)]
          rfl
        refine w_rdI ml94 rfl (by omega) e9 (c3 _ (q6 _ (by omega)) ?_)
        unfold wpr
        rw [if_neg (by omega)]
      · have e9 : y.2.1 94 (16 * a9 + i) = z.2.1 94 (16 * a9 + i) := hw a9 (fun e => hca e.symm) _ (by omega)
        refine w_rdI ml94 rfl (by omega) e9 (c3 _ (p6 _ (by omega)) ?_)
        unfold wpr
        rw [if_pos (by omega)]
  exact main (l + l2) 0 (usF z 1 0) (by omega) fr_rf (fun _ _ _ _ => rfl) (fun j hj => by omega) (fun j hj => by omega)
end XPR
section XPC
variable {vl : Nat → Nat} {y : ow_MS} {x x' : Int32}
theorem xc_product (hB : brC y) : Te (fun K => ce_X11_product vl K 0 x x' y) (fun r => (r.1 = 1 ∧ r.2.2 = y ∧ (noB (y.2.1 15) x ∨ noB (y.2.1 15) x') ∨ ∃ a n l b n' l', a < 20 ∧ x = nI a ∧ 2 ≤ n ∧ n ≤ 5 ∧ y.2.1 15 a = nI n ∧ l ≤ 16 ∧ y.2.1 14 a = nI l ∧ b < 20 ∧ x' = nI b ∧ 2 ≤ n' ∧ n' ≤ 5 ∧ y.2.1 15 b = nI n' ∧ l' ≤ 16 ∧ y.2.1 14 b = nI l' ∧ (r.1 = 2 ∧ r.2.2 = y ∧ n ≠ n' ∨ n = n' ∧ (r.1 = 4 ∧ r.2.2 = y ∧ 16 < l + l' ∨ l + l' ≤ 16 ∧ (r.1 = 3 ∧ r.2.2 = y ∧ (∀ c, c < 20 → y.2.1 15 c ≠ 0) ∨ r.1 = 0 ∧ ∃ c, lfB (y.2.1 15) c ∧ r.2.1 = nI c ∧ brC r.2.2 ∧ fr bdQ y r.2.2 ∧ nwB 13 y r.2.2 c n (l + l') (wpr y 13 a l b)))))) := by
  refine e_X11_product ?_; unfold cm_X11_product_0
  refine w_tc0 (tc_needBraid (brC_E hB)) ?_ ?_
  · rintro y1 ⟨h1, rfl⟩
    rcases h1 with ⟨-, hb⟩ | h1
    · obtain ⟨a, n, l, ha20, rfl, hn2, hn5, e15, l16, e14, hw⟩ := isB_w hB hb
      refine w_tc0 (tc_needBraid (brC_E hB)) ?_ ?_
      · rintro y2 ⟨h2, rfl⟩
        rcases h2 with ⟨-, hb'⟩ | h2
        · obtain ⟨b, n', l', hb20, rfl, hn2', hn5', e15', l16', e14', hw'⟩ := isB_w hB hb'
          refine w_crI ch_15 rfl ha20 e15 (w_crI ch_15 rfl hb20 e15' (w_eqN (by omega) (by omega) (fun enn => w_crI ch_14 rfl ha20 e14 (w_crI ch_14 rfl hb20 e14' ?_)) (fun enn => w_some (Or.inr ⟨a, n, l, b, n', l', ha20, rfl, hn2, hn5, e15, l16, e14, hb20, rfl, hn2', hn5', e15', l16', e14', Or.inl ⟨rfl, rfl, enn⟩⟩))))
          rw [nI_add]
          refine w_le (b := 16) (by omega) (by omega) (fun h16 => ?_) (fun h16 => w_some (Or.inr ⟨a, n, l, b, n', l', ha20, rfl, hn2, hn5, e15, l16, e14, hb20, rfl, hn2', hn5', e15', l16', e14', Or.inr ⟨enn, Or.inl ⟨rfl, rfl, by omega⟩⟩⟩))
          refine w_tc1 tc_freeBraid ?_ ?_
          · rintro v y3 ⟨h3, rfl⟩
            rcases h3 with ⟨d, hd, -, rfl, e0, eall⟩ | h3
            · have had : a ≠ d := fun e => by
                rw [e, e0] at e15
                have := nI_inj9 (a := 0) (b := n) (by omega) (by omega) e15
                omega
              have hbd : b ≠ d := fun e => by
                rw [e, e0] at e15'
                have := nI_inj9 (a := 0) (b := n') (by omega) (by omega) e15'
                omega
              rw [m16, m16, m16]
              refine w_crI ch_14 rfl ha20 e14 ?_
              have cpb : ∀ {E : ow_MS → Nat → Nat → Option (Nat × Int32 × ow_MS)} {Q : Nat × Int32 × ow_MS → Prop} (z : ow_MS) (s t m : Nat), s + m ≤ 320 → t + m ≤ 320 → (∀ i, i < m → fits .byte (.int (z.2.1 13 (s + i))) = true) → Tt (E (usR z 13 (va_cpy (z.2.1 13) (z.2.1 13) s t m))) Q → Tt (fun K k => cpB (cX vl) z 13 (nI s) 13 (nI t) (nI m) (fun v => E v K k)) Q := by
                intro E Q z s t m h1 h2 h3 H
                unfold cpB
                refine w_ifT (fun i hi => ?_) (w_cpI (a := s) (b := t) (n := m) ch_13 ch_13 rfl rfl rfl h1 h2 H)
                rw [nI_clamp (by omega)] at hi
                rw [nI_clamp (by omega)]
                exact h3 i hi
              refine cpb y3 (16 * a) (16 * d) l (by omega) (by omega) (fun i hi => ?_) ?_
              · obtain ⟨q, q1, q2, q3⟩ := hw i hi
                rw [q1]
                exact (lt_a (by omega)).2.1
              · have k4 : (usR y3 13 (va_cpy (y3.2.1 13) (y3.2.1 13) (16 * a) (16 * d) l)).2.1 14 = y3.2.1 14 := usR_ot (by omega)
                have k3 : ∀ k, k < 16 * d ∨ 16 * d + 16 ≤ k → (usR y3 13 (va_cpy (y3.2.1 13) (y3.2.1 13) (16 * a) (16 * d) l)).2.1 13 k = y3.2.1 13 k := by
                  intro k hk
                  rw [usR_at]
                  exact pk_cpy_out (by omega)
                have k3' : ∀ i, i < l → (usR y3 13 (va_cpy (y3.2.1 13) (y3.2.1 13) (16 * a) (16 * d) l)).2.1 13 (16 * d + i) = y3.2.1 13 (16 * a + i) := by
                  intro i hi
                  rw [usR_at, pk_cpy_in (by omega) (by omega), show 16 * d + i - 16 * d = i by omega]
                have f1 : fr (fun g => g = 13) y3 (usR y3 13 (va_cpy (y3.2.1 13) (y3.2.1 13) (16 * a) (16 * d) l)) := fr_R2 fr_rf rfl
                generalize usR y3 13 (va_cpy (y3.2.1 13) (y3.2.1 13) (16 * a) (16 * d) l) = z1 at k4 k3 k3' f1
                refine w_crI ch_14 rfl ha20 ((congrFun k4 a).trans e14) (w_crI ch_14 rfl hb20 ((congrFun k4 b).trans e14') ?_)
                rw [nI_add]
                refine cpb z1 (16 * b) (16 * d + l) l' (by omega) (by omega) (fun i hi => ?_) ?_
                · obtain ⟨q, q1, q2, q3⟩ := hw' i hi
                  rw [k3 _ (by omega), q1]
                  exact (lt_a (by omega)).2.1
                · have j4 : (usR z1 13 (va_cpy (z1.2.1 13) (z1.2.1 13) (16 * b) (16 * d + l) l')).2.1 14 = y3.2.1 14 := (usR_ot (by omega)).trans k4
                  have j5 : (usR z1 13 (va_cpy (z1.2.1 13) (z1.2.1 13) (16 * b) (16 * d + l) l')).2.1 15 = y3.2.1 15 := (usR_ot (by omega)).trans (f1 15 (by omega)).2.1
                  have j3 : ∀ k, k < 16 * d ∨ 16 * d + 16 ≤ k → (usR z1 13 (va_cpy (z1.2.1 13) (z1.2.1 13) (16 * b) (16 * d + l) l')).2.1 13 k = y3.2.1 13 k := by
                    intro k hk
                    rw [usR_at, pk_cpy_out (by omega)]
                    exact k3 k hk
                  have jw : ∀ i, i < l + l' → ∃ q : Int, (usR z1 13 (va_cpy (z1.2.1 13) (z1.2.1 13) (16 * b) (16 * d + l) l')).2.1 13 (16 * d + i) = iI q ∧ 1 ≤ q.natAbs ∧ q.natAbs < n := by
                    intro i hi
                    rw [usR_at]
                    by_cases e : i < l
                    · obtain ⟨q, q1, q2, q3⟩ := hw i e
                      rw [pk_cpy_out (by omega), k3' i e]
                      exact ⟨q, q1, q2, q3⟩
                    · obtain ⟨q, q1, q2, q3⟩ := hw' (i - l) (by omega)
                      rw [pk_cpy_in (by omega) (by omega), show 16 * b + (16 * d + i - (16 * d + l)) = 16 * b + (i - l) by omega, k3 _ (by omega)]
                      exact ⟨q, q1, q2, by omega⟩
                  have jv : ∀ i, i < l + l' → (usR z1 13 (va_cpy (z1.2.1 13) (z1.2.1 13) (16 * b) (16 * d + l) l')).2.1 13 (16 * d + i) = wpr y3 13 a l b i := by
                    intro i hi
                    rw [usR_at]
                    unfold wpr
                    by_cases e : i < l
                    · rw [pk_cpy_out (by omega), k3' i e, if_pos e]
                    · rw [pk_cpy_in (by omega) (by omega), show 16 * b + (16 * d + i - (16 * d + l)) = 16 * b + (i - l) by omega, k3 _ (by omega), if_neg e]
                  have f2 : fr (fun g => g = 13) y3 (usR z1 13 (va_cpy (z1.2.1 13) (z1.2.1 13) (16 * b) (16 * d + l) l')) := fr_R2 f1 rfl
                  generalize usR z1 13 (va_cpy (z1.2.1 13) (z1.2.1 13) (16 * b) (16 * d + l) l') = z2 at j4 j5 j3 jw jv f2
                  refine w_crI ch_14 rfl ha20 ((congrFun j4 a).trans e14) (w_crI ch_14 rfl hb20 ((congrFun j4 b).trans e14') ?_)
                  rw [nI_add]
                  refine w_ctI ch_14 rfl hd (w_crI ch_15 rfl ha20 (rd_ot (by omega) ((congrFun j5 a).trans e15)) (w_ctI ch_15 rfl hd (w_some (Or.inr ⟨a, n, l, b, n', l', ha20, rfl, hn2, hn5, e15, l16, e14, hb20, rfl, hn2', hn5', e15', l16', e14', Or.inr ⟨enn, Or.inr ⟨h16, Or.inr ⟨rfl, d, ⟨hd, e0, eall⟩, rfl, ?_, fr_I2 (fr_I2 (fr_mono (fun g hg => by rw [hg]; unfold bdQ; omega) f2) (by unfold bdQ; omega)) (by unfold bdQ; omega), po_usI_at, rd_ot (by omega) po_usI_at, fun j hj => rd_ot (by omega) (rd_ot (by omega) (jv j hj)), fun e he => ⟨rd_ne he (rd_ot (by omega) (congrFun j5 e)), rd_ot (by omega) (rd_ne he (congrFun j4 e)), fun j hj => rd_ot (by omega) (rd_ot (by omega) (j3 _ (by omega)))⟩⟩⟩⟩⟩))))
                  refine brC_put (n := n) (l := l + l') hd hB (fun k hk9 => rd_ot (by omega) (rd_ot (by omega) (j3 k hk9))) (fun k hk9 => rd_ot (by omega) (rd_ne hk9 (congrFun j4 k))) (fun k hk9 => rd_ne hk9 (rd_ot (by omega) (congrFun j5 k))) ⟨hn5, by omega⟩ po_usI_at (fun _ => ⟨h16, rd_ot (by omega) po_usI_at, fun j hj => ?_⟩)
                  obtain ⟨q, a1, a2, a3⟩ := jw j hj
                  exact ⟨q, rd_ot (by omega) (rd_ot (by omega) a1), a2, a3⟩
            · exact absurd (show (0 : Nat) = 3 from h3.1) (by decide)
          · rintro q v y3 ha ⟨h3, rfl⟩
            rcases h3 with ⟨d, -, q9, -⟩ | h3
            · exact absurd q9 ha
            · exact w_some (Or.inr ⟨a, n, l, b, n', l', ha20, rfl, hn2, hn5, e15, l16, e14, hb20, rfl, hn2', hn5', e15', l16', e14', Or.inr ⟨enn, Or.inr ⟨h16, Or.inl ⟨h3.1, rfl, h3.2⟩⟩⟩⟩)
        · exact absurd (show (0 : Nat) = 1 from h2.1) (by decide)
      · rintro q y2 ha ⟨h2, rfl⟩
        rcases h2 with h2 | h2
        · exact absurd h2.1 ha
        · exact w_some (Or.inl ⟨h2.1, rfl, Or.inr h2.2⟩)
    · exact absurd (show (0 : Nat) = 1 from h1.1) (by decide)
  · rintro q y1 ha ⟨h1, rfl⟩
    rcases h1 with h1 | h1
    · exact absurd h1.1 ha
    · exact w_some (Or.inl ⟨h1.1, rfl, Or.inl h1.2⟩)
end XPC
end
