section
/-! 99zzzzzzzzzr.xfig -/
/-! exact calls: figure, of both -/
section XF0
variable {A : rn_L} {sg : Nat → Bool} {f : Nat → Nat} {T : ow_NT} {m : Nat → Nat} {P : Nat}
theorem parts_cnt (hi : isoN A sg f T) (hv : vn T.1 T.2.2.1) (hk : mk A m P) : (np_parts T.1 T.2.2.1.1).2 + cirs A = P := by
  have hc := hi.2.2.1
  obtain ⟨p1, p2, p3, p4⟩ := parts_I hv hc
  let F := (np_parts T.1 T.2.2.1.1).1
  let n := (np_parts T.1 T.2.2.1.1).2
  have hex : ∀ r, r < n → ∃ v, v < A.flatten.length ∧ F (lbv A f v) = nI r := by
    intro r hr
    obtain ⟨k, k1, k2⟩ := p3 r hr
    obtain ⟨v, v1, v2⟩ := lbv_sur hi k1
    exact ⟨v, v1, by rw [v2]; exact k2⟩
  let vr : Nat → Nat := fun r => if h : ∃ v, v < A.flatten.length ∧ F (lbv A f v) = nI r then Classical.choose h else 0
  have hvr : ∀ r, r < n → vr r < A.flatten.length ∧ F (lbv A f (vr r)) = nI r := by
    intro r hr
    have h := hex r hr
    have e : vr r = Classical.choose h := dif_pos h
    rw [e]
    exact Classical.choose_spec h
  have hn31 : n < 2 ^ 31 := by
    have : n ≤ 2 * T.1 := p4
    omega
  have pm : ((List.range n).map (fun r => m (rn_c A (vr r)))).Perm ((List.range P).filter (fun p => !(pvl A m p A.flatten.length).isEmpty)) := by
    refine (List.perm_ext_iff_of_nodup (nodup_map List.nodup_range (fun a b ha hb e => ?_)) (nodup_filter List.nodup_range)).mpr (fun p => ?_)
    · have ha := List.mem_range.mp ha
      have hb := List.mem_range.mp hb
      have h1 := (part_iff hi hv hk (hvr a ha).1 (hvr b hb).1).mpr e
      have h2 : nI a = nI b := by
        rw [← (hvr a ha).2, ← (hvr b hb).2]
        exact h1
      exact nI_inj9 (by omega) (by omega) h2
    · rw [List.mem_map, List.mem_filter, List.mem_range, Bool.not_eq_true', List.isEmpty_eq_false_iff]
      constructor
      · rintro ⟨r, r1, r2⟩
        have hr := hvr r (List.mem_range.mp r1)
        refine ⟨by rw [← r2]; exact hk.1 _ (rn_c_in A _ hr.1).1, ?_⟩
        exact List.ne_nil_of_mem (pvl_m.mpr ⟨hr.1, r2⟩)
      · rintro ⟨q1, q2⟩
        obtain ⟨v, hv9⟩ := List.exists_mem_of_ne_nil _ q2
        have hv1 := pvl_m.mp hv9
        obtain ⟨r, r1, r2⟩ := p2 _ (lbv_lt hi hv1.1)
        refine ⟨r, List.mem_range.mpr r1, ?_⟩
        rw [← hv1.2]
        refine (part_iff hi hv hk (hvr r r1).1 hv1.1).mp ?_
        exact (hvr r r1).2.trans r2.symm
  have h1 := pm.length_eq
  rw [List.length_map, List.length_range] at h1
  have h2 := rwL_len (A := A) (sg := sg) (m := m) P
  rw [rwL_eq, List.length_map, ← h1, cir_eq hk] at h2
  exact h2
end XF0
def wG (sg : Nat → Bool) (p : vT) : Int32 := if p.2 = 0 then (if sg p.1 then -1 else 1) else 0
theorem wr_sL {A : rn_L} {sg : Nat → Bool} : ∀ v, v ≤ A.flatten.length → iI (wrN A sg v) = sL (wG sg) (A.flatten.take v)
  | 0, _ => rfl
  | v + 1, h => by
    rw [take_s (vAt_of (show v < A.flatten.length by omega)), sL_s, ← wr_sL v (by omega)]
    show iI (wrN A sg v + if uns A v = 0 then (if sg (crs A v) then -1 else 1) else 0) = _
    rw [← iI_add]
    congr 1
    show iI (if uns A v = 0 then (if sg (crs A v) then -1 else 1) else 0) = if uns A v = 0 then (if sg (crs A v) then -1 else 1) else 0
    split
    · split
      · rfl
      · rfl
    · rfl
theorem np_sL {sg : Nat → Bool} {G : Nat → Int32} : ∀ c, (∀ x, x < c → G x = if sg x then -1 else 1) → np_sum G c = sL (wG sg) (pairs c)
  | 0, _ => rfl
  | c + 1, h => by
    rw [pairs_s, show pairs c ++ [(c, 0), (c, 1)] = (pairs c ++ [(c, 0)]) ++ [(c, 1)] by simp, sL_s, sL_s, ← np_sL c (fun x hx => h x (by omega))]
    show np_sum G c + G c = np_sum G c + (if sg c then -1 else 1) + 0
    rw [h c (by omega), Int32.add_zero]
/-- under and over in turn -/
def uoA (A : rn_L) : Prop := ∀ v, v < A.flatten.length → uns A v ≠ uns A (rn_nx A v)
/-- what figure answers: Pn is the number of parts -/
def figV (A : rn_L) (sg : Nat → Bool) (Pn k : Nat) (r : Int32) : Prop := (k = 0 → r = nI (A.flatten.length / 2)) ∧ (k = 1 → r = nI A.length) ∧ (k = 2 → r = nI (cirs A)) ∧ (k = 3 → r = nI Pn) ∧ (k = 4 → r = sL (wG sg) A.flatten) ∧ (k = 5 → r = 1 ∧ uoA A ∨ r = 0 ∧ ¬ uoA A)
section XF
variable {X : (Nat → Nat → Int32) → Prop} {z : ow_MS} {St : plT}
theorem xq_figure {d what : Int32} (h : gI X z) (hR : relR z St) : Te (fun K => qe_X13_figure K d what z) (fun r => rFl X z 1 r ∧ (∀ e, e < 40 → d = nI e → St e = none) ∨ ∃ e A sg, e < 40 ∧ d = nI e ∧ St e = some (A, sg) ∧ (rFl X z 2 r ∧ ¬ in9 what 6 ∨ rOk X z r ∧ ∃ k, k < 6 ∧ what = nI k ∧ ∃ m Pn, (k = 3 → mk A m Pn) ∧ figV A sg Pn k r.1)) := by
  let Q : Int32 × ow_MS → Prop := fun r => rFl X z 1 r ∧ (∀ e, e < 40 → d = nI e → St e = none) ∨ ∃ e A sg, e < 40 ∧ d = nI e ∧ St e = some (A, sg) ∧ (rFl X z 2 r ∧ ¬ in9 what 6 ∨ rOk X z r ∧ ∃ k, k < 6 ∧ what = nI k ∧ ∃ m Pn, (k = 3 → mk A m Pn) ∧ figV A sg Pn k r.1)
  have h1 := gI_1 (c := 0) h
  have hR1 := relR_1 (c := 0) hR
  refine e_X13_figure ?_
  refine u_X13_figure_0 ?_; unfold qm_X13_figure_0
  refine w_wrF (w_hasX hR1 (fun h0 => w_ifT rfl (w_mono (w_failX h1 fr_1) (fun r hr => Or.inl ⟨hr, h0⟩))) (fun e A sg he hx hs hv hne => w_ifF (by decide) ?_))
  subst hx
  have fin : ∀ {r}, (rFl X z 2 r ∧ ¬ in9 what 6 ∨ rOk X z r ∧ ∃ k, k < 6 ∧ what = nI k ∧ ∃ m Pn, (k = 3 → mk A m Pn) ∧ figV A sg Pn k r.1) → Q r := fun hr => Or.inr ⟨e, A, sg, he, rfl, hs, hr⟩
  have c1 : ¬ in9 what 6 → Tt (fun K k => q_X13_figure K k 1 (nI e) what 0 (usF z 1 0)) Q := by
    intro hno
    refine u_X13_figure_1 ?_; unfold qm_X13_figure_1
    exact w_mono (w_failX (k := 2) h1 fr_1) (fun r hr => fin (Or.inl ⟨hr, hno⟩))
  have h69 := in9_le (x := what) (n := 5) (by omega)
  refine w_if (fun h9 => c1 (fun h8 => (h69.mp h8).1 h9)) (fun e0 => w_if (fun e5 => w_cs0 (to_open pn1 he hv) (fun z2 ⟨o1, f1⟩ => ?_)) (fun h9 => c1 (fun h8 => h9 (h69.mp h8).2)))
  have h2 : gI X z2 := gI_net pn1 f1 (fun g hg => by omega) h1
  have hl := o1.len
  have hc := o1.2.2.2
  have hd := wkF_ok o1.wk
  have f02 : fr rPs z z2 := fr_tr fr_1 (fr_mono (fun g hg => Or.inr (by unfold rSc; omega)) f1)
  have z21 : z2.1 1 = 0 := by rw [(f1 1 (by omega)).1]; exact po_usF_at
  have ok : ∀ {a : Int32} {y : ow_MS} (k : Nat) (m : Nat → Nat) (Pn : Nat), gI X y → y.1 1 = 0 → fr rPs z y → k < 6 → what = nI k → (k = 3 → mk A m Pn) → figV A sg Pn k a → Q (a, y) := fun k m Pn q1 q2 q3 k1 k2 k3 k4 => fin (Or.inr ⟨⟨q1, q2, q3⟩, k, k1, k2, m, Pn, k3, k4⟩)
  have no : ∀ {P : Prop} {a b : Nat}, a ≠ b → a = b → P := fun h9 h8 => absurd h8 h9
  have c2 : what = nI 5 → ∀ (k v : Nat), v + k = A.flatten.length → (∀ u, u < v → uns A u ≠ uns A (rn_nx A u)) → Tt (fun K i => q_X13_figure K i 2 (nI e) what (nI v) z2) Q := by
    intro ew k
    induction k with
    | zero =>
      intro v hv9 hall
      refine u_X13_figure_2 ?_; unfold qm_X13_figure_2
      exact w_rdF o1.1.V (w_leT (by omega) (by omega) (w_some (ok 5 id 0 h2 z21 f02 (by omega) ew (no (by omega)) ⟨no (by omega), no (by omega), no (by omega), no (by omega), no (by omega), fun _ => Or.inl ⟨rfl, fun u hu => hall u (by omega)⟩⟩)))
    | succ k ih =>
      intro v hv9 hall
      have hvl : v < A.flatten.length := by omega
      have hnl := rn_nx_lt (A := A) hvl
      have u1 := (o1.wk.2 _ (vAt_mem hvl)).2.1
      have u2 := (o1.wk.2 _ (vAt_mem hnl)).2.1
      have u1 : uns A v < 2 := u1
      have u2 : uns A (rn_nx A v) < 2 := u2
      refine u_X13_figure_2 ?_; unfold qm_X13_figure_2
      refine w_rdF o1.1.V (w_leF (by omega) hvl (w_rdI (pl5 pn1) rfl (by omega) (lk_cu o1.1 hvl).2 (w_rdI (pl9 pn1) rfl (by omega) (lk_n o1.1 hvl) (w_rdI (pl5 pn1) rfl (by omega) (lk_cu o1.1 hnl).2 (w_if (fun q => w_some (ok 5 id 0 h2 z21 f02 (by omega) ew (no (by omega)) ⟨no (by omega), no (by omega), no (by omega), no (by omega), no (by omega), fun _ => Or.inr ⟨rfl, fun h9 => h9 v hvl (nI_inj9 (by omega) (by omega) q)⟩⟩)) (fun q => ?_))))))
      rw [nI_1]
      refine ih (v + 1) (by omega) (fun u hu => ?_)
      by_cases eu : u = v
      · rw [eu]
        exact fun e9 => q (by rw [e9])
      · exact hall u (by omega)
  refine w_if (fun q => w_rdF o1.1.V (w_nzI (by decide) (w_some (ok 0 id 0 h2 z21 f02 (by omega) q (no (by omega)) ⟨fun _ => pk_div (d := 2) (by omega) (by omega) (by omega), no (by omega), no (by omega), no (by omega), no (by omega), no (by omega)⟩)))) (fun n0 => w_if (fun q => w_rdF (lk_C o1.1) (w_some (ok 1 id 0 h2 z21 f02 (by omega) q (no (by omega)) ⟨no (by omega), fun _ => rfl, no (by omega), no (by omega), no (by omega), no (by omega)⟩))) (fun n1 => w_if (fun q => w_cs1 (tp_circles2 pn1 (by omega) (by omega) o1.1.1) (fun a z3 e9 => ?_)) (fun n2 => w_if (fun q => w_cs0 (tn_split pn1 (by omega) (by omega) hd o1.1) (fun z3 ⟨f3, P, hP⟩ => ?_)) (fun n3 => w_if (fun q => w_cs1 (tp_writhe2 pn1 o1) (fun a z3 e9 => ?_)) (fun n4 => c2 ?_ _ 0 (Nat.zero_add _) (fun u hu => by omega))))))
  · cases e9
    exact w_some (ok 2 id 0 h2 z21 f02 (by omega) q (no (by omega)) ⟨no (by omega), no (by omega), fun _ => by rw [cirs_eC], no (by omega), no (by omega), no (by omega)⟩)
  · obtain ⟨m, hm, -⟩ := mk_of (by omega) hP
    refine w_rdF hP.1 (w_some (ok 3 m P (gI_net pn1 f3 (fun g hg => by rcases hg with hg | hg <;> omega) h2) (by rw [(f3 1 (by unfold frP; omega)).1]; exact z21) (fr_tr f02 (fr_mono (fun g hg => Or.inr (by unfold rSc; unfold frP at hg; omega)) f3)) (by omega) q (fun _ => hm) ⟨no (by omega), no (by omega), no (by omega), fun _ => rfl, no (by omega), no (by omega)⟩))
  · cases e9
    refine w_some (ok 4 id 0 h2 z21 f02 (by omega) q (no (by omega)) ⟨no (by omega), no (by omega), no (by omega), no (by omega), fun _ => ?_, no (by omega)⟩)
    have := wr_sL (A := A) (sg := sg) A.flatten.length (Nat.le_refl _)
    rw [List.take_length] at this
    exact this
  · rcases five e0 e5 with q | q | q | q | q | q
    · exact absurd q n0
    · exact absurd q n1
    · exact absurd q n2
    · exact absurd q n3
    · exact absurd q n4
    · exact q
end XF
section XFC
variable {vl : Nat → Nat} {y : ow_MS} {St : plT} {x x' : Int32}
theorem xc_figure (hN : gN y) (hC : relC y St) (hS : okS St) : Te (fun K => ce_X11_figure vl K 0 x x' y) (fun r => gN r.2.2 ∧ fr uP y r.2.2 ∧ relC r.2.2 St ∧ (r.1 = 1 ∧ (∀ e, e < 40 → x = nI e → St e = none) ∨ ∃ e A sg, e < 40 ∧ x = nI e ∧ St e = some (A, sg) ∧ (r.1 = 2 ∧ ¬ in9 x' 6 ∨ r.1 = 0 ∧ ∃ k, k < 6 ∧ x' = nI k ∧ ∀ m Pn, (k = 3 → mk A m Pn) → figV A sg Pn k r.2.1))) := by
  refine e_X11_figure ?_; unfold cm_X11_figure_0
  refine w_tc0 (xc_need hN.1 hC hS) ?_ ?_
  · rintro y1 ⟨h1, rfl⟩
    rcases h1 with h1 | ⟨-, d, A, sg, c, hd, rfl, hSt, hs, hA, hne, hpl⟩
    · exact absurd (show (0 : Nat) = 1 from h1.1) (by decide)
    · have h69 := in9_le (x := x') (n := 5) (by omega)
      refine w_if (fun e => w_some ⟨hN, fr_rf, hC, Or.inr ⟨d, A, sg, hd, rfl, hSt, Or.inl ⟨rfl, fun h8 => (h69.mp h8).1 e⟩⟩⟩) (fun e0 => w_if (fun e5 => ?_) (fun e => w_some ⟨hN, fr_rf, hC, Or.inr ⟨d, A, sg, hd, rfl, hSt, Or.inl ⟨rfl, fun h8 => e (h69.mp h8).2⟩⟩⟩))
      refine w_cs0 (xc_ld hN hd hs hA hpl) ?_
      rintro y3 ⟨hN3, f3, T, hT, hT1, hV, hpm, hTp⟩
      have hC3 : relC y3 St := relC_fr f3 (fun q hq h9 => by unfold cW at hq; unfold cL at h9; omega) hC
      have hG : ∀ x, x < c → T.2.2.2 x = if sg x then -1 else 1 := fun x hx => iso_sg1 (p := (x, 0)) hV hpm ((hA.1.2 _).mpr ⟨hx, by show 0 < 2; omega⟩)
      have lA := okF_len hA.1
      have no : ∀ {P : Prop} {a b : Nat}, a ≠ b → a = b → P := fun h9 h8 => absurd h8 h9
      have f3u : fr uP y1 y3 := fr_mono (fun g hg => by unfold cL at hg; unfold uP; omega) f3
      have hv := hT.2.2.1
      have hx6 := five e0 e5
      have fin : ∀ (v : Int32) (y4 : ow_MS) (k : Nat), gN y4 → fr uP y1 y4 → relC y4 St → k < 6 → x' = nI k → (∀ m Pn, (k = 3 → mk A m Pn) → figV A sg Pn k v) → Tt (fun _ _ => some ((0 : Nat), v, y4)) (fun r => gN r.2.2 ∧ fr uP y1 r.2.2 ∧ relC r.2.2 St ∧ (r.1 = 1 ∧ (∀ e, e < 40 → nI d = nI e → St e = none) ∨ ∃ e A sg, e < 40 ∧ nI d = nI e ∧ St e = some (A, sg) ∧ (r.1 = 2 ∧ ¬ in9 x' 6 ∨ r.1 = 0 ∧ ∃ k, k < 6 ∧ x' = nI k ∧ ∀ m Pn, (k = 3 → mk A m Pn) → figV A sg Pn k r.2.1))) := fun v y4 k g1 g2 g3 g4 g5 g6 => w_some ⟨g1, g2, g3, Or.inr ⟨d, A, sg, hd, rfl, hSt, Or.inr ⟨rfl, k, g4, g5, g6⟩⟩⟩
      refine w_if (fun e => ?_) (fun e => ?_)
      · refine w_cs1 (tc_alternates nH4 hT.1 hv.2.1) ?_
        rintro v y4 ⟨h4, rfl⟩
        have hx5 : x' = 5 := by
          rcases hx6 with rfl | rfl | rfl | rfl | rfl | rfl
          · exact absurd e (by decide)
          · exact absurd e (by decide)
          · exact absurd e (by decide)
          · exact absurd e (by decide)
          · exact absurd e (by decide)
          · rfl
        have al : (∀ v, v < 2 * T.1 → (nI v &&& 1) ≠ (nI (T.2.2.1.1 v) &&& 1)) ↔ uoA A := by
          have cv : ∀ v, v < A.flatten.length → ((nI (lb (vAt A v)) &&& 1) = (nI (T.2.2.1.1 (lb (vAt A v))) &&& 1) ↔ uns A v = uns A (rn_nx A v)) := fun v hv9 => by
            have hn9 := rn_nx_lt (A := A) hv9
            have e9 : T.2.2.1.1 (lb (vAt A v)) = lb (vAt A (rn_nx A v)) := hT.2.1.2.2.2.2.2.1 v hv9
            have b1 : lb (vAt A v) < 2 * T.1 := lbv_lt hT.2.1 hv9
            have b2 : lb (vAt A (rn_nx A v)) < 2 * T.1 := lbv_lt hT.2.1 hn9
            have c1 : lb (vAt A v) % 2 = uns A v := (lbv_hf hT.2.1 hv9).2
            have c2 : lb (vAt A (rn_nx A v)) % 2 = uns A (rn_nx A v) := (lbv_hf hT.2.1 hn9).2
            have h12 := hv.2.1
            rw [e9, an1_c ⟨lb (vAt A v), by omega⟩, an1_c ⟨lb (vAt A (rn_nx A v)), by omega⟩]
            dsimp only
            rw [c1, c2]
            exact ⟨fun q => nI_inj9 (by omega) (by omega) q, fun q => by rw [q]⟩
          constructor
          · intro h9 v hv9 e9
            exact h9 (lb (vAt A v)) (lbv_lt hT.2.1 hv9) ((cv v hv9).mpr e9)
          · intro h9 k hk e9
            obtain ⟨v, v1, v2⟩ := lbv_sur hT.2.1 hk
            have v2 : lb (vAt A v) = k := v2
            rw [← v2] at e9
            exact h9 v v1 ((cv v v1).mp e9)
        dsimp only at h4
        rcases h4 with ⟨rfl, h5⟩ | ⟨rfl, h5⟩
        · exact w_ifF (by decide) (fin 1 y4 5 hN3 f3u hC3 (by omega) hx5 (fun m Pn _ => ⟨no (by omega), no (by omega), no (by omega), no (by omega), no (by omega), fun _ => Or.inl ⟨rfl, al.mp h5⟩⟩))
        · exact w_ifT rfl (fin 0 y4 5 hN3 f3u hC3 (by omega) hx5 (fun m Pn _ => ⟨no (by omega), no (by omega), no (by omega), no (by omega), no (by omega), fun _ => Or.inr ⟨rfl, fun h9 => by
            obtain ⟨v, v1, v2⟩ := h5
            exact al.mpr h9 v v1 v2⟩⟩))
      · have ci6 : T.2.1 ≤ 6 := by have := hv.2.2.2; omega
        refine w_if (fun e1 => ?_) (fun n0 => w_if (fun e1 => ?_) (fun n1 => w_if (fun e1 => ?_) (fun n2 => w_if (fun e1 => ?_) (fun n3 => w_if (fun e1 => ?_) (fun n4 => ?_)))))
        · subst e1
          exact w_rdF hT.1.1 (fin _ y3 0 hN3 f3u hC3 (by omega) rfl (fun m Pn hm => ⟨fun _ => by rw [show A.flatten.length / 2 = T.1 by omega], no (by omega), no (by omega), no (by omega), no (by omega), no (by omega)⟩))
        · subst e1
          exact w_rdF hT.2.2.2.2.2 (fin _ y3 1 hN3 f3u hC3 (by omega) rfl (fun m Pn hm => ⟨no (by omega), fun _ => rfl, no (by omega), no (by omega), no (by omega), no (by omega)⟩))
        · subst e1
          exact w_rdF hT.1.2.1 (fin _ y3 2 hN3 f3u hC3 (by omega) rfl (fun m Pn hm => ⟨no (by omega), no (by omega), fun _ => by rw [← hT.2.1.2.2.2.2.2.2.2], no (by omega), no (by omega), no (by omega)⟩))
        · subst e1
          refine w_cs0 (tc_markParts nH4 hT.1 (fun a ha => (hv.1 a ha).1) hv.2.1) ?_
          rintro y4 ⟨m1, m2, m3⟩
          have hof := np_parts_of (N := T.2.2.1.1) (c := T.1) (fun a ha => (hv.1 a ha).1) hv.2.1 (y3.2.1 (4000 + 6))
          rw [hof.2] at m2
          have hy4 : cAt y4 4000 T := cAt_fr m3 (fun g hg h9 => by unfold cP at hg; unfold cQ at h9; omega) hT.1
          refine w_rdF m2 (w_rdF hy4.2.1 ?_)
          rw [nI_add]
          exact fin _ y4 3 (gN_net nH4 m3 (fun g hg => by unfold cQ at hg; omega) ⟨T, hy4, hv.2.2.1⟩ hN3) (fr_tr f3u (fr_mono (fun g hg => by unfold cQ at hg; unfold uP; omega) m3)) (relC_fr m3 (fun q hq h9 => by unfold cW at hq; unfold cQ at h9; omega) hC3) (by omega) rfl (fun m Pn hm => ⟨no (by omega), no (by omega), no (by omega), fun _ => by rw [← parts_cnt hT.2.1 hv.1 (hm rfl), hT.2.1.2.2.2.2.2.2.2], no (by omega), no (by omega)⟩)
        · subst e1
          refine w_cs1 (tc_writhe nH4 hT.1 hv.2.1) ?_
          rintro v y4 ⟨h4, rfl⟩
          dsimp only at h4
          exact fin _ y4 4 hN3 f3u hC3 (by omega) rfl (fun m Pn hm => ⟨no (by omega), no (by omega), no (by omega), no (by omega), fun _ => by rw [h4, np_sL T.1 (fun x hx => hG x (by omega)), hT1, sL_pm (okF_pairs hA.1)], no (by omega)⟩)
        · exfalso
          rcases hx6 with h | h | h | h | h | h
          · exact n0 h
          · exact n1 h
          · exact n2 h
          · exact n3 h
          · exact n4 h
          · rw [h] at e
            exact e (by decide)
  · rintro a y1 ha ⟨h1, rfl⟩
    rcases h1 with h1 | h1
    · exact w_some ⟨hN, fr_rf, hC, Or.inl h1⟩
    · exact absurd h1.1 ha
end XFC
end
section
/-! 99zzzzzzzzzs.xtap -/
/-! exact calls: feed and end of the reference; the tape of both -/
def sel5 (a b c d e : Int32) (i : Nat) : Int32 := if i < 4 then a else if i < 8 then b else if i < 12 then c else if i < 16 then d else e
theorem sh4 : ∀ i : Fin 20, (24 - 8 * (nI i.1 &&& 3) : Int32) = nI (24 - 8 * (i.1 % 4)) := by decide +kernel
theorem usF_n9 {z : ow_MS} {h g : Nat} {x : Int32} (e : g ≠ h) : (usF z h x).1 g = z.1 g := if_neg e
def tpR (g : Nat) : Prop := g = 1 ∨ g = 10 ∨ g = 11
section XT
variable {X : (Nat → Nat → Int32) → Prop} {z : ow_MS}
theorem xq_feed {a b c d e : Int32} {t : Nat} (h : gI X z) (ht : t ≤ 400) (h11 : z.1 11 = nI t) : Te (fun K => qe_X13_feed K a b c d e z) (fun r => t + 20 ≤ 400 ∧ r.1 = nI (t + 20) ∧ gI X r.2 ∧ r.2.1 1 = 0 ∧ r.2.1 11 = nI (t + 20) ∧ (∀ i, i < 20 → r.2.2.1 10 (t + i) = bT (sel5 a b c d e i) (i % 4)) ∧ (∀ k, k < t → r.2.2.1 10 k = z.2.1 10 k) ∧ fr tpR z r.2 ∨ 400 < t + 20 ∧ rFl X z 1 r) := by
  let Q : Int32 × ow_MS → Prop := fun r => t + 20 ≤ 400 ∧ r.1 = nI (t + 20) ∧ gI X r.2 ∧ r.2.1 1 = 0 ∧ r.2.1 11 = nI (t + 20) ∧ (∀ i, i < 20 → r.2.2.1 10 (t + i) = bT (sel5 a b c d e i) (i % 4)) ∧ (∀ k, k < t → r.2.2.1 10 k = z.2.1 10 k) ∧ fr tpR z r.2 ∨ 400 < t + 20 ∧ rFl X z 1 r
  have key : ∀ (k i : Nat) (z1 : ow_MS), i + k = 20 → t + 20 ≤ 400 → z1.1 11 = nI (t + i) → z1.1 1 = 0 → (∀ j, j < i → z1.2.1 10 (t + j) = bT (sel5 a b c d e j) (j % 4)) → (∀ k, k < t → z1.2.1 10 k = z.2.1 10 k) → fr tpR z z1 → gI X z1 → Tt (fun K j => q_X13_feed K j 1 a b c d e (nI i) 0 z1) Q := by
    intro k
    induction k with
    | zero =>
      intro i z1 hi h400 q11 q1 qb qk qf hI
      have hi20 : i = 20 := by omega
      subst hi20
      refine u_X13_feed_1 ?_; unfold qm_X13_feed_1
      exact w_leT (a := 20) (by omega) (by omega) (w_rdF q11 (w_some (Or.inl ⟨h400, rfl, hI, q1, q11, qb, qk, qf⟩)))
    | succ k ih =>
      intro i z1 hi h400 q11 q1 qb qk qf hI
      have c2 : ∀ w : Int32, w = sel5 a b c d e i → Tt (fun K j => q_X13_feed K j 2 a b c d e (nI i) w z1) Q := by
        intro w hw
        refine u_X13_feed_2 ?_; unfold qm_X13_feed_2
        rw [nI_1]
        refine w_rdF q11 (w_wrB ml10 rfl (by omega) (w_rdF q11 (w_wrF ?_)))
        rw [nI_1]
        have e4 := sh4 ⟨i, by omega⟩
        dsimp only at e4
        rw [e4]
        have h1 : gI X (usI z1 10 (t + i) (vp_nar .byte (w >>> ((nI (24 - 8 * (i % 4))) &&& 31)).toInt8.toInt32)) := gI_fr (P := fun g => g = 10) (fr_I rfl) (fun g hg => by rw [hg]; decide) hI
        refine ih (i + 1) _ (by omega) h400 po_usF_at (show (usF _ 11 _).1 1 = 0 from (usF_n9 (by decide)).trans q1) (fun j hj => ?_) (fun k hk => ?_) (fr_F2 (fr_I2 qf (Or.inr (Or.inl rfl))) (Or.inr (Or.inr rfl))) (gI_t (t := t + i + 1) rfl (by omega) h1)
        · by_cases ej : j = i
          · rw [ej, ← hw]
            exact po_usI_at
          · exact rd_ne (by omega) (qb j (by omega))
        · exact rd_ne (by omega) (qk k hk)
      refine u_X13_feed_1 ?_; unfold qm_X13_feed_1
      refine w_leF (a := 20) (by omega) (by omega) (w_le (a := 4) (by omega) (by omega) (fun g4 => w_le (a := 8) (by omega) (by omega) (fun g8 => w_le (a := 12) (by omega) (by omega) (fun g12 => w_le (a := 16) (by omega) (by omega) (fun g16 => c2 _ ?_) (fun g16 => c2 _ ?_)) (fun g12 => c2 _ ?_)) (fun g8 => c2 _ ?_)) (fun g4 => c2 _ ?_))
      · unfold sel5
        rw [if_neg (by omega), if_neg (by omega), if_neg (by omega), if_neg (by omega)]
      · unfold sel5
        rw [if_neg (by omega), if_neg (by omega), if_neg (by omega), if_pos (by omega)]
      · unfold sel5
        rw [if_neg (by omega), if_neg (by omega), if_pos (by omega)]
      · unfold sel5
        rw [if_neg (by omega), if_pos (by omega)]
      · unfold sel5
        rw [if_pos (by omega)]
  have f1 : fr tpR z (usF z 1 0) := fr_F (Or.inl rfl)
  refine e_X13_feed ?_
  refine u_X13_feed_0 ?_; unfold qm_X13_feed_0
  refine w_wrF (w_rdF (x := nI t) (rf_ot (by omega) h11) ?_)
  rw [show nI t + 20 = nI (t + 20) from nI_add t 20]
  exact w_le (b := 400) (by omega) (by omega) (fun h9 => key 20 0 _ (by omega) h9 (rf_ot (by omega) h11) po_usF_at (fun j hj => by omega) (fun k _ => rfl) f1 (gI_1 h)) (fun h9 => w_mono (w_failX (k := 1) (gI_1 h) fr_1) (fun r hr => Or.inr ⟨h9, hr⟩))
theorem xq_end {n : Int32} {t : Nat} (h : gI X z) (ht : t ≤ 400) (h11 : z.1 11 = nI t) : Te (fun K => qe_X13_end K n z) (fun r => (∃ u, u ≤ t ∧ n = nI u ∧ gI X r ∧ r.1 1 = 0 ∧ r.1 11 = nI u ∧ r.2.1 10 = z.2.1 10 ∧ fr tpR z r) ∨ (∀ u, u ≤ t → n ≠ nI u) ∧ rFl X z 1 (0, r)) := by
  let Q : ow_MS → Prop := fun r => (∃ u, u ≤ t ∧ n = nI u ∧ gI X r ∧ r.1 1 = 0 ∧ r.1 11 = nI u ∧ r.2.1 10 = z.2.1 10 ∧ fr tpR z r) ∨ (∀ u, u ≤ t → n ≠ nI u) ∧ rFl X z 1 (0, r)
  have c1 : (∀ u, u ≤ t → n ≠ nI u) → Tt (fun K k => q_X13_end K k 1 n (usF z 1 0)) Q := by
    intro hno
    refine u_X13_end_1 ?_; unfold qm_X13_end_1
    refine w_cs1 tm_fails (fun a z1 e => ?_)
    cases e
    exact w_some (Or.inr ⟨hno, gI_1 (gI_1 h), po_usF_at, fr_F2 fr_1 (Or.inl rfl)⟩)
  refine e_X13_end ?_
  refine u_X13_end_0 ?_; unfold qm_X13_end_0
  refine w_wrF (w_if (fun h9 => c1 (fun u hu eu => ?_)) (fun h0 => w_rdF (x := nI t) (rf_ot (by omega) h11) (w_if (fun h1 => w_wrF (w_some ?_)) (fun h1 => c1 (fun u hu eu => ?_)))))
  · rw [eu] at h9
    exact nI_pos (by omega) h9
  · obtain ⟨j, hj, rfl⟩ := nI_of h0
    have hjt : j ≤ t := (nI_leI (by omega) (by omega)).mp h1
    exact Or.inl ⟨j, hjt, rfl, gI_t rfl (by omega) (gI_1 h), (usF_n9 (by decide)).trans po_usF_at, po_usF_at, rfl, fr_F2 (fr_F (Or.inl rfl)) (Or.inr (Or.inr rfl))⟩
  · rw [eu] at h1
    exact h1 ((nI_leI (by omega) (by omega)).mpr hu)
end XT
/-- the tape of the reference and of the class -/
def relT (z y : ow_MS) : Prop := ∃ t, t ≤ 400 ∧ z.1 11 = nI t ∧ y.1 11001 = nI t ∧ ∀ k, k < t → z.2.1 10 k = y.2.1 11002 k
theorem feed_jn {X : (Nat → Nat → Int32) → Prop} {z y : ow_MS} {a b c d e : Int32} {t : Nat} {rr : Int32 × ow_MS} {rc : Nat × Int32 × ow_MS} (ht : t ≤ 400) (h1 : z.1 11 = nI t) (h2 : y.1 11001 = nI t) (h3 : ∀ k, k < t → z.2.1 10 k = y.2.1 11002 k) (hr : t + 20 ≤ 400 ∧ rr.1 = nI (t + 20) ∧ gI X rr.2 ∧ rr.2.1 1 = 0 ∧ rr.2.1 11 = nI (t + 20) ∧ (∀ i, i < 20 → rr.2.2.1 10 (t + i) = bT (sel5 a b c d e i) (i % 4)) ∧ (∀ k, k < t → rr.2.2.1 10 k = z.2.1 10 k) ∧ fr tpR z rr.2 ∨ 400 < t + 20 ∧ rFl X z 1 rr) (hc : (t + 20 ≤ 400 ∧ rc.1 = 0 ∧ rc.2.1 = nI (t + 20) ∧ rc.2.2.1 11001 = nI (t + 20) ∧ (∀ i, i < 4 → rc.2.2.2.1 11002 (t + i) = bT a i ∧ rc.2.2.2.1 11002 (t + 4 + i) = bT b i ∧ rc.2.2.2.1 11002 (t + 8 + i) = bT c i ∧ rc.2.2.2.1 11002 (t + 12 + i) = bT d i ∧ rc.2.2.2.1 11002 (t + 16 + i) = bT e i) ∧ (∀ k, k < t → rc.2.2.2.1 11002 k = y.2.1 11002 k) ∨ 400 < t + 20 ∧ rc.1 = 3 ∧ rc.2.2 = y) ∧ fr tpP y rc.2.2) : relT rr.2 rc.2.2 ∧ (rr.2.1 1 = 0 ∧ rc.1 = 0 ∧ rr.1 = rc.2.1 ∨ rr.2.1 1 = nI 1 ∧ rc.1 = 3) := by
  rcases hr with ⟨r0, r1, r2, r3, r4, r5, r6, r7⟩ | ⟨r0, r1, r2, r3⟩
  · rcases hc.1 with ⟨c0, c1, c2, c3, c4, c5⟩ | ⟨c0, -⟩
    · refine ⟨⟨t + 20, r0, r4, c3, fun k hk => ?_⟩, Or.inl ⟨r3, c1, r1.trans c2.symm⟩⟩
      by_cases hkt : k < t
      · rw [r6 k hkt, c5 k hkt, h3 k hkt]
      · obtain ⟨i, rfl⟩ : ∃ i, k = t + i := ⟨k - t, by omega⟩
        have hi : i < 20 := by omega
        rw [r5 i hi]
        obtain ⟨p0, p1, p2, p3, p4⟩ := c4 (i % 4) (Nat.mod_lt _ (by omega))
        unfold sel5
        have : i / 4 = 0 ∨ i / 4 = 1 ∨ i / 4 = 2 ∨ i / 4 = 3 ∨ i / 4 = 4 := by omega
        rcases this with q | q | q | q | q
        · rw [if_pos (by omega), ← p0]
          exact congrArg _ (by omega)
        · rw [if_neg (by omega), if_pos (by omega), ← p1]
          exact congrArg _ (by omega)
        · rw [if_neg (by omega), if_neg (by omega), if_pos (by omega), ← p2]
          exact congrArg _ (by omega)
        · rw [if_neg (by omega), if_neg (by omega), if_neg (by omega), if_pos (by omega), ← p3]
          exact congrArg _ (by omega)
        · rw [if_neg (by omega), if_neg (by omega), if_neg (by omega), if_neg (by omega), ← p4]
          exact congrArg _ (by omega)
    · omega
  · rcases hc.1 with ⟨c0, -⟩ | ⟨c0, c1, c2⟩
    · omega
    · have e11 := (r3 11 (by unfold rPs rSc; omega)).1
      have e10 := (r3 10 (by unfold rPs rSc; omega)).2.1
      refine ⟨⟨t, ht, by rw [e11]; exact h1, by rw [c2]; exact h2, fun k hk => by rw [e10, c2]; exact h3 k hk⟩, Or.inr ⟨r2, c1⟩⟩
theorem end_jn {X : (Nat → Nat → Int32) → Prop} {z y rr : ow_MS} {x : Int32} {t : Nat} {rc : Nat × ow_MS} (ht : t ≤ 400) (h1 : z.1 11 = nI t) (h2 : y.1 11001 = nI t) (h3 : ∀ k, k < t → z.2.1 10 k = y.2.1 11002 k) (hr : (∃ u, u ≤ t ∧ x = nI u ∧ gI X rr ∧ rr.1 1 = 0 ∧ rr.1 11 = nI u ∧ rr.2.1 10 = z.2.1 10 ∧ fr tpR z rr) ∨ (∀ u, u ≤ t → x ≠ nI u) ∧ rFl X z 1 (0, rr)) (hc : ((∃ u, u ≤ t ∧ x = nI u ∧ rc.1 = 0 ∧ rc.2.1 11001 = nI u) ∨ (∀ u, u ≤ t → x ≠ nI u) ∧ rc.1 = 2 ∧ rc.2 = y) ∧ fr (fun q => q = 11001) y rc.2) : relT rr rc.2 ∧ (rr.1 1 = 0 ∧ rc.1 = 0 ∨ rr.1 1 = nI 1 ∧ rc.1 = 2) := by
  have e2 := (hc.2 11002 (by omega)).2.1
  rcases hr with ⟨u, r0, r1, r2, r3, r4, r5, r6⟩ | ⟨r0, r1, r2, r3⟩
  · rcases hc.1 with ⟨w, c0, c1, c2, c3⟩ | ⟨c0, -⟩
    · have e : u = w := nI_inj9 (by omega) (by omega) (r1.symm.trans c1)
      subst e
      exact ⟨⟨u, by omega, r4, c3, fun k hk => by rw [r5, e2]; exact h3 k (by omega)⟩, Or.inl ⟨r3, c2⟩⟩
    · exact absurd r1 (c0 u r0)
  · rcases hc.1 with ⟨w, c0, c1, -⟩ | ⟨c0, c1, c2⟩
    · exact absurd c1 (r0 w c0)
    · have e11 : rr.1 11 = z.1 11 := (r3 11 (by unfold rPs rSc; omega)).1
      have e10 : rr.2.1 10 = z.2.1 10 := (r3 10 (by unfold rPs rSc; omega)).2.1
      exact ⟨⟨t, ht, by rw [e11]; exact h1, by rw [c2]; exact h2, fun k hk => by rw [e10, c2]; exact h3 k hk⟩, Or.inr ⟨r2, c1⟩⟩
end
section
/-! 99zzzzzzzzzt.xbo -/
/-! both sides of a call answer the same, and the places stay related -/
def rel1 (X : (Nat → Nat → Int32) → Prop) (z y : ow_MS) (St : plT) : Prop := gI X z ∧ gN y ∧ relR z St ∧ relC y St ∧ okS St
def ansI (em : List (Nat × Nat)) (rr : Int32 × ow_MS) (rc : Nat × Int32 × ow_MS) : Prop := rr.2.1 1 = 0 ∧ rc.1 = 0 ∧ rr.1 = rc.2.1 ∨ ∃ j k, (j, k) ∈ em ∧ rr.2.1 1 = nI j ∧ rc.1 = k
def bothI (em : List (Nat × Nat)) (X : (Nat → Nat → Int32) → Prop) (z y : ow_MS) (rr : Int32 × ow_MS) (rc : Nat × Int32 × ow_MS) : Prop := (∃ St, rel1 X rr.2 rc.2.2 St) ∧ fr rPk z rr.2 ∧ fr uP y rc.2.2 ∧ ansI em rr rc
theorem te_two {O P : Type} {f : Nat → Option O} {g : Nat → Option P} {Q : O → Prop} {R : P → Prop} {M : O → P → Prop} (h1 : Te f Q) (h2 : Te g R) (H : ∀ a b, Q a → R b → M a b) : Te f (fun a => Te g (fun b => M a b)) := w_monoE h1 (fun a ha => w_monoE h2 (fun b hb => H a b ha hb))
theorem rPs_k {g : Nat} (h : rPs g) : rPk g := h.elim Or.inl (fun h9 => Or.inr (Or.inr h9))
section XB
variable {X : (Nat → Nat → Int32) → Prop} {z y : ow_MS} {St : plT} {em : List (Nat × Nat)} {rr : Int32 × ow_MS} {rc : Nat × Int32 × ow_MS}
theorem bo_fail {j k : Nat} (h : rel1 X z y St) (hr : rFl X z j rr) (hm : (j, k) ∈ em) (e : rc.1 = k) (hN : gN rc.2.2) (hf : fr uP y rc.2.2) (hC : relC rc.2.2 St) : bothI em X z y rr rc := ⟨⟨St, hr.1, hN, relR_fr hr.2.2 (by unfold rPs rSc; omega) h.2.2.1, hC, h.2.2.2.2⟩, fr_mono (fun g hg => rPs_k hg) hr.2.2, hf, Or.inr ⟨j, k, hm, hr.2.1, e⟩⟩
theorem bo_val (h : rel1 X z y St) (hr : rOk X z rr) (e : rc.1 = 0) (ev : rr.1 = rc.2.1) (hN : gN rc.2.2) (hf : fr uP y rc.2.2) (hC : relC rc.2.2 St) : bothI em X z y rr rc := ⟨⟨St, hr.1, hN, relR_fr hr.2.2 (by unfold rPs rSc; omega) h.2.2.1, hC, h.2.2.2.2⟩, fr_mono (fun g hg => rPs_k hg) hr.2.2, hf, Or.inl ⟨hr.2.1, e, ev⟩⟩
theorem lst_uni2 {e f : Nat} (h1 : lstF St e) (h2 : lstF St f) : e = f := by
  rcases Nat.lt_trichotomy e f with q | q | q
  · exact absurd h1.2.1 (h2.2.2 e q)
  · exact q
  · exact absurd h2.2.1 (h1.2.2 f q)
theorem all_lst {e : Nat} (h1 : allF St) (h2 : lstF St e) : False := h1 e h2.1 h2.2.1
theorem bo_keep {e f : Nat} {A2 : rn_L} {sg2 : Nat → Bool} (h : rel1 X z y St) (he : lstF St e) (hf : lstF St f) (h6 : A2.length ≤ 6) (hne : A2 ≠ []) (e0 : rc.1 = 0) (hc : cKp y f A2 sg2 rc.2) (hr : rKp X z e A2 sg2 rr) : bothI em X z y rr rc := by
  have ef := lst_uni2 hf he
  subst ef
  obtain ⟨k1, A', sg', k2, k3, k4⟩ := kp_join h.2.1.1 h.2.2.2.1 h.2.2.1 h.2.2.2.2 hf h6 hne hc hr
  exact ⟨⟨_, hr.1, hc.2.1, k3, k2, k4⟩, hr.2.2.2.1, hc.2.2.1, Or.inl ⟨hr.2.2.1, e0, k1.symm⟩⟩
theorem okS_6 (h : rel1 X z y St) {d : Nat} {A : rn_L} {sg : Nat → Bool} (hd : d < 40) (hs : St d = some (A, sg)) : A ≠ [] ∧ A.length ≤ 6 ∧ wkF A.flatten := by
  obtain ⟨k1, k2, c, k3⟩ := h.2.2.2.2 d A sg hd hs
  exact ⟨k1, k3.2.2.2.2, okF_wk (by have := k3.2.2.2.1; omega) k3.1⟩
variable {vl : Nat → Nat} {x x' : Int32}
theorem b_mirror (h : rel1 X z y St) : Te (fun K => qe_X13_mirror K x z) (fun rr => Te (fun K => ce_X11_mirror vl K 0 x y) (fun rc => bothI [(1, 1), (2, 3)] X z y rr rc)) := by
  refine te_two (xq_mirror h.1 h.2.2.1) (xc_mirror h.2.1 h.2.2.2.1 h.2.2.2.2) (fun rr rc hr hc => ?_)
  rcases hr with ⟨r1, r2⟩ | ⟨d, A, sg, d1, d2, d3, hr⟩
  · rcases hc with ⟨c1, c2, c3, c4, -⟩ | ⟨d, A, sg, d1, d2, d3, -⟩
    · exact bo_fail h r1 (by simp) c1 c2 c3 c4
    · rw [r2 d d1 d2] at d3
      cases d3
  · rcases hc with ⟨-, -, -, -, c5⟩ | ⟨d', A', sg', d1', d2', d3', hc⟩
    · rw [c5 d d1 d2] at d3
      cases d3
    · obtain ⟨q1, q2⟩ := pl_uni d1' d1 d2' d2 d3' d3
      subst q1
      subst q2
      obtain ⟨n1, n2, -⟩ := okS_6 h d1 d3
      rcases hr with ⟨r1, r2⟩ | ⟨e, r1, r2⟩
      · rcases hc with ⟨c1, c2, c3, c4, -⟩ | ⟨-, f, c1, -⟩
        · exact bo_fail h r1 (by simp) c1 c2 c3 c4
        · exact (all_lst r2 c1).elim
      · rcases hc with ⟨-, -, -, -, c5⟩ | ⟨c0, f, c1, c2⟩
        · exact (all_lst c5 r1).elim
        · exact bo_keep h r1 c1 (by rw [List.length_map]; exact n2) (fun e9 => n1 (List.map_eq_nil_iff.mp e9)) c0 c2 r2
theorem b_change (h : rel1 X z y St) : Te (fun K => qe_X13_change K x x' z) (fun rr => Te (fun K => ce_X11_change vl K 0 x x' y) (fun rc => bothI [(1, 1), (2, 3)] X z y rr rc)) := by
  refine te_two (xq_change h.1 h.2.2.1) (xc_change h.2.1 h.2.2.2.1 h.2.2.2.2) (fun rr rc hr hc => ?_)
  rcases hr with ⟨r1, r2⟩ | ⟨d, A, sg, d1, d2, d3, hr⟩
  · rcases hc with ⟨c1, c2, c3, c4, -⟩ | ⟨d, A, sg, d1, d2, d3, -⟩
    · exact bo_fail h r1 (by simp) c1 c2 c3 c4
    · rw [r2 d d1 d2] at d3
      cases d3
  · rcases hc with ⟨-, -, -, -, c5⟩ | ⟨d', A', sg', d1', d2', d3', hc⟩
    · rw [c5 d d1 d2] at d3
      cases d3
    · obtain ⟨q1, q2⟩ := pl_uni d1' d1 d2' d2 d3' d3
      subst q1
      subst q2
      obtain ⟨n1, n2, n3⟩ := okS_6 h d1 d3
      rcases hr with ⟨r1, r2⟩ | ⟨k, k1, k2, hr⟩
      · rcases hc with ⟨c1, c2, c3, c4, -⟩ | ⟨k, k1, k2, -⟩
        · exact bo_fail h r1 (by simp) c1 c2 c3 c4
        · exact absurd k2 (r2 k k1)
      · rcases hc with ⟨-, -, -, -, c5⟩ | ⟨k', k1', k2', hc⟩
        · exact absurd k2 (c5 k k1)
        · obtain ⟨c, hc12, -⟩ := h.2.2.2.2 d A' sg' d1 d3
          obtain ⟨cc, hcc⟩ := (h.2.2.2.2 d A' sg' d1 d3).2.2
          have l24 := okF_len hcc.1
          have l12 := hcc.2.2.2.1
          have ek : k = k' := nI_inj9 (by omega) (by omega) (k2.symm.trans k2')
          subst ek
          rcases hr with ⟨r1, r2⟩ | ⟨e, r1, r2⟩
          · rcases hc with ⟨c1, c2, c3, c4, -⟩ | ⟨-, f, c1, -⟩
            · exact bo_fail h r1 (by simp) c1 c2 c3 c4
            · exact (all_lst r2 c1).elim
          · rcases hc with ⟨-, -, -, -, c5⟩ | ⟨c0, f, c1, c2⟩
            · exact (all_lst c5 r1).elim
            · exact bo_keep h r1 c1 (by rw [List.length_map]; exact n2) (fun e9 => n1 (List.map_eq_nil_iff.mp e9)) c0 c2 r2
theorem b_reverse (h : rel1 X z y St) : Te (fun K => qe_X13_reverse K x x' z) (fun rr => Te (fun K => ce_X11_reverse vl K 0 x x' y) (fun rc => bothI [(1, 1), (2, 3)] X z y rr rc)) := by
  refine te_two (xq_reverse h.1 h.2.2.1) (xc_reverse h.2.1 h.2.2.2.1 h.2.2.2.2) (fun rr rc hr hc => ?_)
  rcases hr with ⟨r1, r2⟩ | ⟨d, A, sg, d1, d2, d3, hr⟩
  · rcases hc with ⟨c1, c2, c3, c4, -⟩ | ⟨d, A, sg, d1, d2, d3, -⟩
    · exact bo_fail h r1 (by simp) c1 c2 c3 c4
    · rw [r2 d d1 d2] at d3
      cases d3
  · rcases hc with ⟨-, -, -, -, c5⟩ | ⟨d', A', sg', d1', d2', d3', hc⟩
    · rw [c5 d d1 d2] at d3
      cases d3
    · obtain ⟨q1, q2⟩ := pl_uni d1' d1 d2' d2 d3' d3
      subst q1
      subst q2
      obtain ⟨n1, n2, n3⟩ := okS_6 h d1 d3
      rcases hr with ⟨r1, r2⟩ | ⟨ok, hr⟩
      · rcases hc with ⟨c1, c2, c3, c4, -⟩ | ⟨ok, -⟩
        · exact bo_fail h r1 (by simp) c1 c2 c3 c4
        · exact absurd ok r2
      · rcases hc with ⟨-, -, -, -, c5⟩ | ⟨-, hc⟩
        · exact absurd ok c5
        · rcases hr with ⟨r1, r2⟩ | ⟨e, r1, r2⟩
          · rcases hc with ⟨c1, c2, c3, c4, -⟩ | ⟨-, f, c1, -⟩
            · exact bo_fail h r1 (by simp) c1 c2 c3 c4
            · exact (all_lst r2 c1).elim
          · rcases hc with ⟨-, -, -, -, c5⟩ | ⟨c0, f, c1, c2⟩
            · exact (all_lst c5 r1).elim
            · have lr : (rvX (tauC x') A' A'.length).length = A'.length := by
                unfold rvX
                rw [List.length_map, List.length_range]
              refine bo_keep h r1 c1 (by rw [lr]; exact n2) (fun e9 => n1 ?_) c0 c2 r2
              rw [e9] at lr
              exact List.length_eq_zero_iff.mp lr.symm
theorem b_smooth (h : rel1 X z y St) : Te (fun K => qe_X13_smooth K x x' z) (fun rr => Te (fun K => ce_X11_smooth vl K 0 x x' y) (fun rc => bothI [(1, 1), (2, 4), (3, 3)] X z y rr rc)) := by
  refine te_two (xq_smooth h.1 h.2.2.1) (xc_smooth h.2.1 h.2.2.2.1 h.2.2.2.2) (fun rr rc hr hc => ?_)
  rcases hr with ⟨r1, r2⟩ | ⟨d, A, sg, d1, d2, d3, hr⟩
  · rcases hc with ⟨c1, c2, c3, c4, -⟩ | ⟨d, A, sg, d1, d2, d3, -⟩
    · exact bo_fail h r1 (by simp) c1 c2 c3 c4
    · rw [r2 d d1 d2] at d3
      cases d3
  · rcases hc with ⟨-, -, -, -, c5⟩ | ⟨d', A', sg', d1', d2', d3', hc⟩
    · rw [c5 d d1 d2] at d3
      cases d3
    · obtain ⟨q1, q2⟩ := pl_uni d1' d1 d2' d2 d3' d3
      subst q1
      subst q2
      obtain ⟨n1, n2, n3⟩ := okS_6 h d1 d3
      rcases hr with ⟨r1, r2⟩ | ⟨k, v, w, k1, k2, k3, hr⟩
      · rcases hc with ⟨c1, c2, c3, c4, -⟩ | ⟨k, v, w, k1, k2, -⟩
        · exact bo_fail h r1 (by simp) c1 c2 c3 c4
        · exact absurd k2 (r2 k k1)
      · rcases hc with ⟨-, -, -, -, c5⟩ | ⟨k', v', w', k1', k2', k3', hc⟩
        · exact absurd k2 (c5 k k1)
        · obtain ⟨cc, hcc⟩ := (h.2.2.2.2 d A' sg' d1 d3).2.2
          have l24 := okF_len hcc.1
          have l12 := hcc.2.2.2.1
          have ek : k = k' := nI_inj9 (by omega) (by omega) (k2.symm.trans k2')
          subst ek
          obtain ⟨e1, e2⟩ := sm2_uni n3.1 k3 k3'
          subst e1
          subst e2
          rcases hr with ⟨r1, r2⟩ | ⟨h6, hr⟩
          · rcases hc with ⟨c1, c2, c3, c4, -⟩ | ⟨c6, -⟩
            · exact bo_fail h r1 (by simp) c1 c2 c3 c4
            · omega
          · rcases hc with ⟨-, -, -, -, c5⟩ | ⟨-, hc⟩
            · omega
            · rcases hr with ⟨r1, r2⟩ | ⟨e, r1, r2⟩
              · rcases hc with ⟨c1, c2, c3, c4, -⟩ | ⟨-, f, c1, -⟩
                · exact bo_fail h r1 (by simp) c1 c2 c3 c4
                · exact (all_lst r2 c1).elim
              · rcases hc with ⟨-, -, -, -, c5⟩ | ⟨c0, f, c1, c2⟩
                · exact (all_lst c5 r1).elim
                · refine bo_keep h r1 c1 h6 (fun e9 => ?_) c0 c2 r2
                  have e9 := congrArg List.length e9
                  unfold smV at e9
                  rw [List.length_map] at e9
                  unfold smC at e9
                  split at e9
                  · simp only [List.length_append, List.length_cons, List.length_nil] at e9
                    omega
                  · simp only [List.length_append, List.length_cons, List.length_nil] at e9
                    omega
theorem b_apart (h : rel1 X z y St) : Te (fun K => qe_X13_apart K x x' z) (fun rr => Te (fun K => ce_X11_apart vl K 0 x x' y) (fun rc => bothI [(1, 1), (2, 4), (3, 3)] X z y rr rc)) := by
  refine te_two (xq_apart h.1 h.2.2.1) (xc_apart h.2.1 h.2.2.2.1 h.2.2.2.2) (fun rr rc hr hc => ?_)
  rcases hr with ⟨r1, r2⟩ | ⟨d, A, sg, e, B, sgB, d1, d2, d3, e1, e2, e3, hr⟩
  · rcases hc with ⟨c1, c2, c3, c4, -⟩ | ⟨d, A, sg, e, B, sgB, d1, d2, d3, e1, e2, e3, -⟩
    · exact bo_fail h r1 (by simp) c1 c2 c3 c4
    · rcases r2 with r2 | r2
      · rw [r2 d d1 d2] at d3
        cases d3
      · rw [r2 e e1 e2] at e3
        cases e3
  · rcases hc with ⟨-, -, -, -, c5⟩ | ⟨d', A', sg', e', B', sgB', d1', d2', d3', e1', e2', e3', hc⟩
    · rcases c5 with c5 | c5
      · rw [c5 d d1 d2] at d3
        cases d3
      · rw [c5 e e1 e2] at e3
        cases e3
    · obtain ⟨q1, q2⟩ := pl_uni d1' d1 d2' d2 d3' d3
      subst q1
      subst q2
      obtain ⟨q1, q2⟩ := pl_uni e1' e1 e2' e2 e3' e3
      subst q1
      subst q2
      obtain ⟨n1, n2, n3⟩ := okS_6 h d1 d3
      rcases hr with ⟨r1, r2⟩ | ⟨r3, r4, hr⟩
      · rcases hc with ⟨c1, c2, c3, c4, -⟩ | ⟨c3, c4, -⟩
        · exact bo_fail h r1 (by simp) c1 c2 c3 c4
        · omega
      · rcases hc with ⟨-, -, -, -, c5⟩ | ⟨-, -, hc⟩
        · omega
        · rcases hr with ⟨r1, r2⟩ | ⟨f, r1, r2⟩
          · rcases hc with ⟨c1, c2, c3, c4, -⟩ | ⟨-, f, c1, -⟩
            · exact bo_fail h r1 (by simp) c1 c2 c3 c4
            · exact (all_lst r2 c1).elim
          · rcases hc with ⟨-, -, -, -, c5⟩ | ⟨c0, g, c1, c2⟩
            · exact (all_lst c5 r1).elim
            · exact bo_keep h r1 c1 (by rw [List.length_append]; unfold shN; rw [List.length_map]; exact r4) (fun e9 => n1 (List.append_eq_nil_iff.mp e9).1) c0 c2 r2
theorem b_join {v0 w0 : Int32} (h : rel1 X z y St) : Te (fun K => qe_X13_join K x v0 x' w0 z) (fun rr => Te (fun K => ce_X11_join vl K 0 x v0 x' w0 y) (fun rc => bothI [(1, 1), (2, 4), (3, 3)] X z y rr rc)) := by
  refine te_two (xq_join h.1 h.2.2.1) (xc_join h.2.1 h.2.2.2.1 h.2.2.2.2) (fun rr rc hr hc => ?_)
  rcases hr with ⟨r1, r2⟩ | ⟨A, sg, B, sgB, v, w, hG, hr⟩
  · rcases hc with ⟨c1, c2, c3, c4, -⟩ | ⟨A, sg, B, sgB, v, w, hG, -⟩
    · exact bo_fail h r1 (by simp) c1 c2 c3 c4
    · exact absurd hG (r2 _ _ _ _ _ _)
  · rcases hc with ⟨-, -, -, -, c5⟩ | ⟨A', sg', B', sgB', v', w', hG', hc⟩
    · exact absurd hG (c5 _ _ _ _ _ _)
    · obtain ⟨⟨d, d1, d2, d3⟩, ⟨e, e1, e2, e3⟩, v1, v2, w1, w2⟩ := hG
      obtain ⟨⟨d', d1', d2', d3'⟩, ⟨e', e1', e2', e3'⟩, v1', v2', w1', w2'⟩ := hG'
      obtain ⟨q1, q2⟩ := pl_uni d1' d1 d2' d2 d3' d3
      subst q1
      subst q2
      obtain ⟨q1, q2⟩ := pl_uni e1' e1 e2' e2 e3' e3
      subst q1
      subst q2
      obtain ⟨n1, n2, n3⟩ := okS_6 h d1 d3
      obtain ⟨m1, m2, m3⟩ := okS_6 h e1 e3
      obtain ⟨cc, hcc⟩ := (h.2.2.2.2 d A' sg' d1 d3).2.2
      obtain ⟨cd, hcd⟩ := (h.2.2.2.2 e B' sgB' e1 e3).2.2
      have l24 := okF_len hcc.1
      have l12 := hcc.2.2.2.1
      have l25 := okF_len hcd.1
      have l13 := hcd.2.2.2.1
      have ev : v = v' := nI_inj9 (by omega) (by omega) (v2.symm.trans v2')
      subst ev
      have ew : w = w' := nI_inj9 (by omega) (by omega) (w2.symm.trans w2')
      subst ew
      rcases hr with ⟨r1, r2⟩ | ⟨r3, r4, hr⟩
      · rcases hc with ⟨c1, c2, c3, c4, -⟩ | ⟨c3, c4, -⟩
        · exact bo_fail h r1 (by simp) c1 c2 c3 c4
        · omega
      · rcases hc with ⟨-, -, -, -, c5⟩ | ⟨-, -, hc⟩
        · omega
        · rcases hr with ⟨r1, r2⟩ | ⟨f, r1, r2⟩
          · rcases hc with ⟨c1, c2, c3, c4, -⟩ | ⟨-, f, c1, -⟩
            · exact bo_fail h r1 (by simp) c1 c2 c3 c4
            · exact (all_lst r2 c1).elim
          · rcases hc with ⟨-, -, -, -, c5⟩ | ⟨c0, g, c1, c2⟩
            · exact (all_lst c5 r1).elim
            · have pl := (jo_perm (A := A') (B := B') (s := A'.flatten.length / 2) v1 w1).2
              have p1 := List.length_pos_iff.mpr n1
              have p2 := List.length_pos_iff.mpr m1
              refine bo_keep h r1 c1 (by omega) (fun e9 => ?_) c0 c2 r2
              rw [e9] at pl
              have pl : 0 + 1 = A'.length + B'.length := pl
              omega
end XB
end
section
/-! 99zzzzzzzzzu.xbo2 -/
/-! both sides: visit, linking, figure, alike, drop -/
theorem mk_uni {A : rn_L} {m m' : Nat → Nat} {P P' : Nat} (h : mk A m P) (h' : mk A m' P') : P = P' := by
  have le : ∀ {m m' : Nat → Nat} {P P' : Nat}, mk A m P → mk A m' P' → P ≤ P' := fun {m m' P P'} h h' => by
    have ch : ∀ p, ∃ c, p < P → c < A.length ∧ m c = p := fun p => by
      by_cases e : p < P
      · obtain ⟨c, c1, c2⟩ := h.2.2.2 p e
        exact ⟨c, fun _ => ⟨c1, c2⟩⟩
      · exact ⟨0, fun h9 => absurd h9 e⟩
    have h1 : cntB (fun _ => true) P ≤ cntB (fun _ => true) P' := by
      refine cntB_inj P (fun _ => true) (fun _ => true) (fun p => m' (Classical.choose (ch p))) (fun p hp _ => ?_) (fun p q hp hq _ _ e => ?_)
      · exact ⟨h'.1 _ (Classical.choose_spec (ch p) hp).1, rfl⟩
      · obtain ⟨a1, a2⟩ := Classical.choose_spec (ch p) hp
        obtain ⟨b1, b2⟩ := Classical.choose_spec (ch q) hq
        have := mk_con h (h'.2.2.1 _ _ a1 b1 e)
        rw [a2, b2] at this
        exact this
    have ct : ∀ n, cntB (fun _ => true) n = n := fun n => by
      induction n with
      | zero => rfl
      | succ n ih =>
        show cntB (fun _ => true) n + 1 = n + 1
        rw [ih]
    rw [ct, ct] at h1
    exact h1
  exact Nat.le_antisymm (le h h') (le h' h)
def bothZ (X : (Nat → Nat → Int32) → Prop) (z y : ow_MS) (rr : Int32 × ow_MS) (rc : Int32 × ow_MS) : Prop := (∃ St, rel1 X rr.2 rc.2 St) ∧ fr rPk z rr.2 ∧ fr uP y rc.2 ∧ rr.2.1 1 = 0 ∧ rr.1 = rc.1
section XB2
variable {X : (Nat → Nat → Int32) → Prop} {z y : ow_MS} {St : plT} {vl : Nat → Nat} {x x' : Int32}
theorem b_visit {x3 : Int32} (h : rel1 X z y St) : Te (fun K => qe_X13_visit K x x' x3 z) (fun rr => Te (fun K => ce_X11_visit vl K 0 x x' x3 y) (fun rc => bothI [(1, 1), (2, 2)] X z y rr rc)) := by
  refine te_two (xq_visit h.1 h.2.2.1) (xc_visit h.2.1 h.2.2.2.1 h.2.2.2.2) (fun rr rc hr hc => ?_)
  obtain ⟨g1, g2, g3, hc⟩ := hc
  rcases hr with ⟨r1, r2⟩ | ⟨d, A, sg, d1, d2, d3, hr⟩
  · rcases hc with ⟨c1, -⟩ | ⟨d, A, sg, d1, d2, d3, -⟩
    · exact bo_fail h r1 (by simp) c1 g1 g2 g3
    · rw [r2 d d1 d2] at d3
      cases d3
  · rcases hc with ⟨-, c5⟩ | ⟨d', A', sg', d1', d2', d3', hc⟩
    · rw [c5 d d1 d2] at d3
      cases d3
    · obtain ⟨q1, q2⟩ := pl_uni d1' d1 d2' d2 d3' d3
      subst q1
      subst q2
      obtain ⟨cc, hcc⟩ := (h.2.2.2.2 d A' sg' d1 d3).2.2
      have l24 := okF_len hcc.1
      have l12 := hcc.2.2.2.1
      rcases hr with ⟨r1, r2⟩ | ⟨v, v1, v2, hr⟩
      · rcases hc with ⟨c1, -⟩ | ⟨v, v1, v2, -⟩
        · exact bo_fail h r1 (by simp) c1 g1 g2 g3
        · exact absurd ⟨v, v1, v2⟩ r2
      · rcases hc with ⟨-, c5⟩ | ⟨v', v1', v2', hc⟩
        · exact absurd ⟨v, v1, v2⟩ c5
        · have ev : v = v' := nI_inj9 (by omega) (by omega) (v2.symm.trans v2')
          subst ev
          rcases hr with ⟨r1, r2⟩ | ⟨r1, k, k1, k2, k3⟩
          · rcases hc with ⟨c1, -⟩ | ⟨-, k, k1, k2, -⟩
            · exact bo_fail h r1 (by simp) c1 g1 g2 g3
            · exact absurd ⟨k, k1, k2⟩ r2
          · rcases hc with ⟨-, c5⟩ | ⟨c1, k', k1', k2', k3'⟩
            · exact absurd ⟨k, k1, k2⟩ c5
            · have ek : k = k' := nI_inj9 (by omega) (by omega) (k2.symm.trans k2')
              subst ek
              exact bo_val h r1 c1 (k3.trans k3'.symm) g1 g2 g3
theorem b_linking {a b : Int32} (h : rel1 X z y St) : Te (fun K => qe_X13_linking K x a b z) (fun rr => Te (fun K => ce_X11_linking vl K 0 x a b y) (fun rc => bothI [(1, 1), (2, 2)] X z y rr rc)) := by
  refine te_two (xq_linking h.1 h.2.2.1) (xc_linking h.2.1 h.2.2.2.1 h.2.2.2.2) (fun rr rc hr hc => ?_)
  obtain ⟨g1, g2, g3, hc⟩ := hc
  rcases hr with ⟨r1, r2⟩ | ⟨d, A, sg, d1, d2, d3, hr⟩
  · rcases hc with ⟨c1, -⟩ | ⟨d, A, sg, d1, d2, d3, -⟩
    · exact bo_fail h r1 (by simp) c1 g1 g2 g3
    · rw [r2 d d1 d2] at d3
      cases d3
  · rcases hc with ⟨-, c5⟩ | ⟨d', A', sg', d1', d2', d3', hc⟩
    · rw [c5 d d1 d2] at d3
      cases d3
    · obtain ⟨q1, q2⟩ := pl_uni d1' d1 d2' d2 d3' d3
      subst q1
      subst q2
      obtain ⟨n1, n2, n3⟩ := okS_6 h d1 d3
      rcases hr with ⟨r1, r2⟩ | ⟨i, j, i1, j1, i2, j2, hr⟩
      · rcases hc with ⟨c1, -⟩ | ⟨i, j, i1, j1, i2, j2, -⟩
        · exact bo_fail h r1 (by simp) c1 g1 g2 g3
        · exact absurd ⟨⟨i, i1, i2⟩, j, j1, j2⟩ r2
      · rcases hc with ⟨-, c5⟩ | ⟨i', j', i1', j1', i2', j2', hc⟩
        · exact absurd ⟨⟨i, i1, i2⟩, j, j1, j2⟩ c5
        · have ei : i = i' := nI_inj9 (by omega) (by omega) (i2.symm.trans i2')
          subst ei
          have ej : j = j' := nI_inj9 (by omega) (by omega) (j2.symm.trans j2')
          subst ej
          rcases hr with ⟨r1, r2⟩ | ⟨r1, r2, r3⟩
          · rcases hc with ⟨c1, -⟩ | ⟨-, c2, -⟩
            · exact bo_fail h r1 (by simp) c1 g1 g2 g3
            · exact absurd r2 c2
          · rcases hc with ⟨-, c5⟩ | ⟨c1, -, c3⟩
            · exact absurd c5 r2
            · exact bo_val h r1 c1 (r3.trans c3.symm) g1 g2 g3
theorem fig_uni {A : rn_L} {sg : Nat → Bool} {Pn k : Nat} {r s : Int32} (hk : k < 6) (h : figV A sg Pn k r) (h' : figV A sg Pn k s) : r = s := by
  obtain ⟨a0, a1, a2, a3, a4, a5⟩ := h
  obtain ⟨b0, b1, b2, b3, b4, b5⟩ := h'
  have : k = 0 ∨ k = 1 ∨ k = 2 ∨ k = 3 ∨ k = 4 ∨ k = 5 := by omega
  rcases this with e | e | e | e | e | e
  · exact (a0 e).trans (b0 e).symm
  · exact (a1 e).trans (b1 e).symm
  · exact (a2 e).trans (b2 e).symm
  · exact (a3 e).trans (b3 e).symm
  · exact (a4 e).trans (b4 e).symm
  · rcases a5 e with ⟨q1, q2⟩ | ⟨q1, q2⟩ <;> rcases b5 e with ⟨p1, p2⟩ | ⟨p1, p2⟩
    · exact q1.trans p1.symm
    · exact absurd q2 p2
    · exact absurd p2 q2
    · exact q1.trans p1.symm
theorem b_figure (h : rel1 X z y St) : Te (fun K => qe_X13_figure K x x' z) (fun rr => Te (fun K => ce_X11_figure vl K 0 x x' y) (fun rc => bothI [(1, 1), (2, 2)] X z y rr rc)) := by
  refine te_two (xq_figure h.1 h.2.2.1) (xc_figure h.2.1 h.2.2.2.1 h.2.2.2.2) (fun rr rc hr hc => ?_)
  obtain ⟨g1, g2, g3, hc⟩ := hc
  rcases hr with ⟨r1, r2⟩ | ⟨d, A, sg, d1, d2, d3, hr⟩
  · rcases hc with ⟨c1, -⟩ | ⟨d, A, sg, d1, d2, d3, -⟩
    · exact bo_fail h r1 (by simp) c1 g1 g2 g3
    · rw [r2 d d1 d2] at d3
      cases d3
  · rcases hc with ⟨-, c5⟩ | ⟨d', A', sg', d1', d2', d3', hc⟩
    · rw [c5 d d1 d2] at d3
      cases d3
    · obtain ⟨q1, q2⟩ := pl_uni d1' d1 d2' d2 d3' d3
      subst q1
      subst q2
      rcases hr with ⟨r1, r2⟩ | ⟨r1, k, k1, k2, m, Pn, k3, k4⟩
      · rcases hc with ⟨c1, -⟩ | ⟨-, k, k1, k2, -⟩
        · exact bo_fail h r1 (by simp) c1 g1 g2 g3
        · exact absurd ⟨k, k1, k2⟩ r2
      · rcases hc with ⟨-, c5⟩ | ⟨c1, k', k1', k2', k3'⟩
        · exact absurd ⟨k, k1, k2⟩ c5
        · have ek : k = k' := nI_inj9 (by omega) (by omega) (k2.symm.trans k2')
          subst ek
          exact bo_val h r1 c1 (fig_uni k1 k4 (k3' m Pn k3)) g1 g2 g3
theorem b_alike (h : rel1 X z y St) : Te (fun K => qe_X13_alike K x x' z) (fun rr => Te (fun K => ce_X11_alike vl K 0 x x' y) (fun rc => bothZ X z y rr rc)) := by
  refine te_two (xq_alike h.1 h.2.2.1) (xc_alike h.2.1.1 h.2.2.2.1 h.2.2.2.2) (fun rr rc hr hc => ?_)
  obtain ⟨⟨a1, a2, a3⟩, hr⟩ := hr
  obtain ⟨e, hc⟩ := hc
  have ev : rr.1 = rc.1 := by
    rcases hr with ⟨r1, r2⟩ | ⟨r1, r2⟩ <;> rcases hc with ⟨c1, c2⟩ | ⟨c1, c2⟩
    · exact r1.trans c1.symm
    · exact absurd r2 c2
    · exact absurd c2 r2
    · exact r1.trans c1.symm
  exact ⟨⟨St, a1, by rw [e]; exact h.2.1, relR_fr a3 (by unfold rPs rSc; omega) h.2.2.1, by rw [e]; exact h.2.2.2.1, h.2.2.2.2⟩, fr_mono (fun g hg => rPs_k hg) a3, by rw [e]; exact fr_rf, a2, ev⟩
theorem okS_none (hS : okS St) (d : Nat) : okS (upP St d none) := fun e A sg he hs => by
  by_cases ed : e = d
  · rw [ed, show upP St d none d = none from if_pos rfl] at hs
    cases hs
  · rw [show upP St d none e = St e from if_neg ed] at hs
    exact hS e A sg he hs
theorem b_drop (h : rel1 X z y St) (hM : gM y) : Te (fun K => qe_X13_drop K x z) (fun rr => Te (fun K => ce_X11_drop vl K 0 x y) (fun rc => bothZ X z y rr rc ∧ gM rc.2)) := by
  refine te_two (xq_drop h.1 h.2.2.1) (tc_drop2 hM) (fun rr rc hr hc => ?_)
  obtain ⟨a1, a2, a3, hr⟩ := hr
  obtain ⟨m1, hc⟩ := hc
  rcases hr with ⟨r1, r2, r3⟩ | ⟨r1, d, A, sg, d1, d2, d3, r3⟩
  · rcases hc with ⟨c1, d, A, sg, c, d1, d2, k1, k2, k3, -⟩ | ⟨c1, c2, c3⟩
    · exfalso
      have h9 := (h.2.2.2.1 d d1).1 (r2 d d1 d2)
      have hl : 0 < (clC sg A).2.length := by
        show 0 < (ucd sg 0 [] A).length
        rw [ucd_len]
        have := List.length_pos_iff.mpr k3
        omega
      have h30 := (okL_c (sg := sg) k2).2.2.1
      have hs2 : y.2.1 1002 d = nI (clC sg A).2.length := k1.2.1
      rw [hs2] at h9
      have := nI_inj9 (a := (clC sg A).2.length) (b := 0) (by omega) (by omega) h9
      omega
    · exact ⟨⟨⟨St, a1, m1.1, r3, by rw [c3]; exact h.2.2.2.1, h.2.2.2.2⟩, a3, by rw [c3]; exact fr_rf, a2, r1.trans c1.symm⟩, m1⟩
  · rcases hc with ⟨c1, d', A', sg', c, d1', d2', k1, k2, k3, c3⟩ | ⟨c1, c2, c3⟩
    · have ed : d = d' := nI_inj9 (by omega) (by omega) (d2.symm.trans d2')
      subst ed
      refine ⟨⟨⟨upP St d none, a1, m1.1, r3, fun e he => ?_, okS_none h.2.2.2.2 d⟩, a3, by rw [c3]; exact fr_I (by unfold uP; omega), a2, r1.trans c1.symm⟩, m1⟩
      rw [c3]
      by_cases ee : e = d
      · subst ee
        refine ⟨fun _ => po_usI_at, fun B sb h7 => ?_⟩
        rw [show upP St e none e = none from if_pos rfl] at h7
        cases h7
      · rw [show upP St d none e = St e from if_neg ee]
        refine ⟨fun h7 => rd_ne ee ((h.2.2.2.1 e he).1 h7), fun B sb h7 => ?_⟩
        have hC := (h.2.2.2.1 e he).2 B sb h7
        exact ⟨rd_ot (by omega) hC.1, rd_ne ee hC.2.1, fun i a hi => rd_ot (by omega) (hC.2.2 i a hi)⟩
    · exfalso
      have := (relC_len h.2.2.2.1 h.2.2.2.2 d1).mp (c2 d d1 d2)
      rw [this] at d3
      cases d3
end XB2
end
section
/-! 99zzzzzzzzzv.xbr -/
/-! exact calls: dropBraid, inverse, of both -/
def bdQ (g : Nat) : Prop := 13 ≤ g ∧ g ≤ 15
/-- the least free place of the braids -/
def lfB (F : Nat → Int32) (c : Nat) : Prop := c < 20 ∧ F c = 0 ∧ ∀ d, d < c → F d ≠ 0
def noB (F : Nat → Int32) (x : Int32) : Prop := ∀ b, b < 20 → x = nI b → F b = 0
/-- a braid was written at c; the arrays of words, lengths, strands are g, g + 1, g + 2 -/
def nwB (g : Nat) (z z1 : ow_MS) (c n l : Nat) (w : Nat → Int32) : Prop := z1.2.1 (g + 2) c = nI n ∧ z1.2.1 (g + 1) c = nI l ∧ (∀ i, i < l → z1.2.1 g (16 * c + i) = w i) ∧ ∀ d, d ≠ c → z1.2.1 (g + 2) d = z.2.1 (g + 2) d ∧ z1.2.1 (g + 1) d = z.2.1 (g + 1) d ∧ ∀ i, i < 16 → z1.2.1 g (16 * d + i) = z.2.1 g (16 * d + i)
/-- the braids of the reference and of the class -/
def relB (z y : ow_MS) : Prop := ∀ b, b < 20 → z.2.1 96 b = y.2.1 15 b ∧ (z.2.1 96 b ≠ 0 → z.2.1 95 b = y.2.1 14 b ∧ ∀ l, l ≤ 16 → z.2.1 95 b = nI l → ∀ i, i < l → z.2.1 94 (16 * b + i) = y.2.1 13 (16 * b + i))
theorem relB_new {z z1 y y1 : ow_MS} {c n l : Nat} {w w' : Nat → Int32} (h : relB z y) (hl : l ≤ 16) (hz : nwB 94 z z1 c n l w) (hy : nwB 13 y y1 c n l w') (hw : ∀ i, i < l → w i = w' i) : relB z1 y1 := fun b hb => by
  by_cases e : b = c
  · subst e
    refine ⟨hz.1.trans hy.1.symm, fun _ => ⟨hz.2.1.trans hy.2.1.symm, fun l' hl' e' i hi => ?_⟩⟩
    have el : l = l' := nI_inj9 (by omega) (by omega) (hz.2.1.symm.trans e')
    subst el
    rw [hz.2.2.1 i hi]
    exact (hw i hi).trans (hy.2.2.1 i hi).symm
  · obtain ⟨a1, a2, a3⟩ := hz.2.2.2 b e
    obtain ⟨b1, b2, b3⟩ := hy.2.2.2 b e
    obtain ⟨h1, h2⟩ := h b hb
    refine ⟨a1.trans (h1.trans b1.symm), fun h0 => ?_⟩
    obtain ⟨k1, k2⟩ := h2 (fun h9 => h0 (a1.trans h9))
    refine ⟨a2.trans (k1.trans b2.symm), fun l' hl' e' i hi => ?_⟩
    rw [a3 i (by omega), k2 l' hl' (a2.symm.trans e') i hi]
    exact (b3 i (by omega)).symm
theorem lfB_uni {F G : Nat → Int32} {c d : Nat} (hFG : ∀ b, b < 20 → F b = G b) (h1 : lfB F c) (h2 : lfB G d) : c = d := by
  rcases Nat.lt_trichotomy c d with q | q | q
  · exact absurd ((hFG c h1.1).symm.trans h1.2.1) (h2.2.2 c q)
  · exact q
  · exact absurd ((hFG d h2.1).trans h2.2.1) (h1.2.2 d q)
section XBR
variable {X : (Nat → Nat → Int32) → Prop} {z : ow_MS}
theorem w_hasBX {O : Type} {x : Int32} {Q : O → Prop} {B : Int32 → ow_MS → Nat → Nat → Option O} (h : gBrs z) (H0 : noB (z.2.1 96) x → Tt (B 0 z) Q) (H1 : ∀ b n l, b < 20 → x = nI b → hBr z b n l → Tt (B 1 z) Q) : Tt (fun K k => cs1 (qe_X13_hasBraid K x z) fun v z1 => B v z1 K k) Q := by
  have key : Te (fun K => qe_X13_hasBraid K x z) (fun r => r = (0, z) ∧ noB (z.2.1 96) x ∨ r = (1, z) ∧ ∃ b n l, b < 20 ∧ x = nI b ∧ hBr z b n l) := by
    refine e_X13_hasBraid ?_; unfold qm_X13_hasBraid_0
    refine w_if (fun h9 => w_okZ (Or.inl rfl) (w_some (Or.inl ⟨rfl, fun b hb e => ?_⟩))) (fun h0 => w_if (fun h9 => w_okZ (Or.inl rfl) (w_some (Or.inl ⟨rfl, fun b hb e => ?_⟩))) (fun h1 => ?_))
    · rw [e] at h9
      exact absurd h9 (nI_pos (by omega))
    · rw [e] at h9
      have := (nI_leI (a := 20) (b := b) (by omega) (by omega)).mp h9
      omega
    obtain ⟨b, hb, rfl⟩ : ∃ b, b < 20 ∧ x = nI b := by
      rcases pk_ix x (n := 20) (by omega) with h9 | h9 | h9
      · exact absurd h9 h0
      · exact absurd h9 h1
      · exact h9
    refine w_rdI ml96 rfl (by omega) rfl (w_if (fun h9 => w_okZ (Or.inl rfl) (w_some (Or.inl ⟨rfl, fun b' hb' e => ?_⟩))) (fun h9 => w_okZ (Or.inr rfl) (w_some (Or.inr ⟨rfl, ?_⟩))))
    · have eb : b = b' := nI_inj9 (by omega) (by omega) e
      subst eb
      rcases gBr_h (h b hb) with e | ⟨n, l, hh⟩
      · exact e
      · rw [hh.2.2.2.1] at h9
        exact absurd h9 (nI_nle (by have := hh.1; omega) (by have := hh.2.1; omega))
    · rcases gBr_h (h b hb) with e | ⟨n, l, hh⟩
      · rw [e] at h9
        exact absurd (by decide) h9
      · exact ⟨b, n, l, hb, rfl, hh⟩
  refine w_cs1 key (fun a z1 e => ?_)
  rcases e with ⟨e, h8⟩ | ⟨e, b, n, l, hb, hx, hh⟩
  · cases e
    exact H0 h8
  · cases e
    exact H1 b n l hb hx hh
theorem w_freeBX {O : Type} {Q : O → Prop} {B : Int32 → ow_MS → Nat → Nat → Option O} (h : gBrs z) (H0 : (∀ c, c < 20 → z.2.1 96 c ≠ 0) → Tt (B (-1) z) Q) (H1 : ∀ c, lfB (z.2.1 96) c → Tt (B (nI c) z) Q) : Tt (fun K k => cs1 (qe_X13_freeBraid K z) fun v z1 => B v z1 K k) Q := by
  have key : Te (fun K => qe_X13_freeBraid K z) (fun r => r = (-1, z) ∧ (∀ c, c < 20 → z.2.1 96 c ≠ 0) ∨ ∃ c, r = (nI c, z) ∧ lfB (z.2.1 96) c) := by
    have lp : ∀ (k c : Nat), c + k = 20 → (∀ d, d < c → z.2.1 96 d ≠ 0) → Tt (fun K i => q_X13_freeBraid K i 1 (nI c) z) (fun r => r = (-1, z) ∧ (∀ c, c < 20 → z.2.1 96 c ≠ 0) ∨ ∃ c, r = (nI c, z) ∧ lfB (z.2.1 96) c) := by
      intro k
      induction k with
      | zero =>
        intro c hc hall
        refine u_X13_freeBraid_1 ?_; unfold qm_X13_freeBraid_1
        refine w_leT (a := 20) (by omega) (by omega) ?_
        refine u_X13_freeBraid_2 ?_; unfold qm_X13_freeBraid_2
        exact w_leT (a := 20) (by omega) (by omega) (w_some (Or.inl ⟨rfl, fun d hd => hall d (by omega)⟩))
      | succ k ih =>
        intro c hc hall
        refine u_X13_freeBraid_1 ?_; unfold qm_X13_freeBraid_1
        rw [nI_1]
        refine w_leF (a := 20) (by omega) (by omega) (w_rdI ml96 rfl (by omega) rfl (w_if (fun h9 => ?_) (fun h9 => ih (c + 1) (by omega) (fun d hd => ?_))))
        · refine u_X13_freeBraid_2 ?_; unfold qm_X13_freeBraid_2
          refine w_leF (a := 20) (by omega) (by omega) (w_some (Or.inr ⟨c, rfl, by omega, ?_, hall⟩))
          rcases gBr_h (h c (by omega)) with e | ⟨n, l, hh⟩
          · exact e
          · rw [hh.2.2.2.1] at h9
            exact absurd h9 (nI_nle (by have := hh.1; omega) (by have := hh.2.1; omega))
        · by_cases e : d = c
          · rw [e]
            intro e0
            rw [e0] at h9
            exact absurd (by decide) h9
          · exact hall d (by omega)
    refine e_X13_freeBraid ?_
    refine u_X13_freeBraid_0 ?_; unfold qm_X13_freeBraid_0
    exact lp 20 0 (by omega) (fun d hd => by omega)
  refine w_cs1 key (fun a z1 e => ?_)
  rcases e with ⟨e, h8⟩ | ⟨c, e, h9⟩
  · cases e
    exact H0 h8
  · cases e
    exact H1 c h9
theorem xq_inverse {x : Int32} (h : gI X z) : Te (fun K => qe_X13_inverse K x z) (fun r => rFl X z 1 r ∧ noB (z.2.1 96) x ∨ ∃ a n l, a < 20 ∧ x = nI a ∧ hBr z a n l ∧ (rFl X z 2 r ∧ (∀ c, c < 20 → z.2.1 96 c ≠ 0) ∨ ∃ c, lfB (z.2.1 96) c ∧ r.1 = nI c ∧ gI X r.2 ∧ r.2.1 1 = 0 ∧ fr (fun g => g = 1 ∨ 94 ≤ g ∧ g ≤ 96) z r.2 ∧ nwB 94 z r.2 c n l (fun i => 0 - z.2.1 94 (16 * a + (l - 1 - i))))) := by
  let Q : Int32 × ow_MS → Prop := fun r => rFl X z 1 r ∧ noB (z.2.1 96) x ∨ ∃ a n l, a < 20 ∧ x = nI a ∧ hBr z a n l ∧ (rFl X z 2 r ∧ (∀ c, c < 20 → z.2.1 96 c ≠ 0) ∨ ∃ c, lfB (z.2.1 96) c ∧ r.1 = nI c ∧ gI X r.2 ∧ r.2.1 1 = 0 ∧ fr (fun g => g = 1 ∨ 94 ≤ g ∧ g ≤ 96) z r.2 ∧ nwB 94 z r.2 c n l (fun i => 0 - z.2.1 94 (16 * a + (l - 1 - i))))
  have h1 := gI_1 (c := 0) h
  have hB := h1.2.2.2.2.2.1
  refine e_X13_inverse ?_
  refine u_X13_inverse_0 ?_; unfold qm_X13_inverse_0
  refine w_wrF (w_hasBX hB (fun h0 => w_ifT rfl (w_mono (w_failX h1 fr_1) (fun r hr => Or.inl ⟨hr, h0⟩))) (fun a9 n l ha hx hh => w_ifF (by decide) (w_freeBX hB (fun h0 => w_ifT rfl (w_mono (w_failX (k := 2) h1 fr_1) (fun r hr => Or.inr ⟨a9, n, l, ha, hx, hh, Or.inl ⟨hr, h0⟩⟩))) (fun c hlf => w_ifF (rn_neg1 (by have := hlf.1; omega)) ?_))))
  subst hx
  have hh0 := hh
  obtain ⟨p1, p2, p3, p4, p5, p6⟩ := hh
  have hc := hlf.1
  have hca : c ≠ a9 := fun e => by
    have hc0 := hlf.2.1
    rw [e, p4] at hc0
    exact nI_ne0 (by omega) (by omega) hc0
  have main : ∀ (k i : Nat) (y : ow_MS), i + k = l → fr (fun g => g = 94) (usF z 1 0) y → (∀ d, d ≠ c → ∀ j, j < 16 → y.2.1 94 (16 * d + j) = (usF z 1 0).2.1 94 (16 * d + j)) → (∀ j, j < i → ltr n (y.2.1 94 (16 * c + j))) → (∀ j, j < i → y.2.1 94 (16 * c + j) = 0 - z.2.1 94 (16 * a9 + (l - 1 - j))) → Tt (fun K k9 => q_X13_inverse K k9 1 (nI a9) (nI c) (nI i) y) Q := by
    intro k
    induction k with
    | zero =>
      intro i y hi hf hw hl hv
      have e5 := (hf 95 (by omega)).2.1
      have e6 := (hf 96 (by omega)).2.1
      have r5 : y.2.1 95 a9 = nI l := by rw [e5]; exact p5
      have r6 : y.2.1 96 a9 = nI n := by rw [e6]; exact p4
      refine u_X13_inverse_1 ?_; unfold qm_X13_inverse_1
      refine w_rdI ml95 rfl (by omega) r5 (w_leT (by omega) (by omega) (w_rdI ml95 rfl (by omega) r5 (w_wrI ml95 rfl (by omega) (w_rdI ml96 rfl (by omega) (rd_ot (by decide) r6) (w_wrI ml96 rfl (by omega) (w_some ?_))))))
      have f3 : fr (fun g => g = 94 ∨ g = 95 ∨ g = 96) (usF z 1 0) (usI (usI y 95 c (nI l)) 96 c (nI n)) := fr_I2 (fr_I2 (fr_mono (fun g hg => Or.inl hg) hf) (Or.inr (Or.inl rfl))) (Or.inr (Or.inr rfl))
      have e4 : (usI (usI y 95 c (nI l)) 96 c (nI n)).2.1 94 = y.2.1 94 := by rw [po_usI_ot (by decide), po_usI_ot (by decide)]
      have k5 : (usI (usI y 95 c (nI l)) 96 c (nI n)).2.1 95 c = nI l := rd_ot (by decide) po_usI_at
      refine Or.inr ⟨a9, n, l, ha, rfl, hh0, Or.inr ⟨c, hlf, rfl, gI_br f3 (fun g hg => Or.inl (by omega)) (gBrs_new hB (c := c) (n := n) (l := l) ⟨p1, p2, p3, po_usI_at, k5, fun j hj => ?_⟩ (fun d hd => ?_) (fun d hd => ?_) (fun d hd j hj => ?_)) h1, ?_, fr_tr (fr_F (Or.inl rfl)) (fr_mono (fun g hg => by omega) f3), po_usI_at, k5, fun j hj => ?_, fun d hd => ⟨?_, ?_, fun j hj => ?_⟩⟩⟩
      · rw [e4]
        exact hl j (by omega)
      · rw [po_usI_ne hd, po_usI_ot (by decide), e6]
      · rw [po_usI_ot (by decide), po_usI_ne hd, e5]
      · rw [e4]
        exact hw d hd j hj
      · show (usI (usI y 95 c (nI l)) 96 c (nI n)).1 1 = 0
        rw [(f3 1 (by omega)).1]
        exact po_usF_at
      · show (usI (usI y 95 c (nI l)) 96 c (nI n)).2.1 94 (16 * c + j) = _
        rw [e4]
        exact hv j (by omega)
      · show (usI (usI y 95 c (nI l)) 96 c (nI n)).2.1 96 d = _
        rw [po_usI_ne hd, po_usI_ot (by decide), e6]
        rfl
      · show (usI (usI y 95 c (nI l)) 96 c (nI n)).2.1 95 d = _
        rw [po_usI_ot (by decide), po_usI_ne hd, e5]
        rfl
      · show (usI (usI y 95 c (nI l)) 96 c (nI n)).2.1 94 (16 * d + j) = _
        rw [e4]
        exact hw d hd j hj
    | succ k ih =>
      intro i y hi hf hw hl hv
      have e5 := (hf 95 (by omega)).2.1
      have r5 : y.2.1 95 a9 = nI l := by rw [e5]; exact p5
      have rv : y.2.1 94 (16 * a9 + l - 1 - i) = z.2.1 94 (16 * a9 + (l - 1 - i)) := by
        rw [show 16 * a9 + l - 1 - i = 16 * a9 + (l - 1 - i) by omega, hw a9 (fun e => hca e.symm) _ (by omega)]
        rfl
      refine u_X13_inverse_1 ?_; unfold qm_X13_inverse_1
      refine w_rdI ml95 rfl (by omega) r5 (w_leF (by omega) (by omega) (w_rdI ml95 rfl (by omega) r5 ?_))
      rw [show (16 : Int32) * nI a9 = nI (16 * a9) from pk_mul 16 a9, nI_add, show nI (16 * a9 + l) - 1 = nI (16 * a9 + l - 1) from pk_sub (b := 1) (by omega), pk_sub (by omega), show (16 : Int32) * nI c = nI (16 * c) from pk_mul 16 c, nI_add, nI_1]
      refine w_rdI ml94 rfl (by omega) rv (w_wrI ml94 rfl (by omega) (ih (i + 1) _ (by omega) (fr_I2 hf rfl) (fun d hd j hj => rd_ne (by omega) (hw d hd j hj)) (fun j hj => ?_) (fun j hj => ?_)))
      · by_cases hji : j = i
        · rw [hji, po_usI_at]
          exact ltr_neg (p6 _ (by omega))
        · rw [po_usI_ne (by omega)]
          exact hl j (by omega)
      · by_cases hji : j = i
        · rw [hji, po_usI_at]
        · rw [po_usI_ne (by omega)]
          exact hv j (by omega)
  exact main l 0 (usF z 1 0) (by omega) fr_rf (fun _ _ _ _ => rfl) (fun j hj => by omega) (fun j hj => by omega)
end XBR
end
section
/-! 99zzzzzzzzzw.xin -/
/-! both sides: inverse -/
section XIC
variable {vl : Nat → Nat} {y : ow_MS} {x x' : Int32}
theorem xc_inverse (hB : brC y) : Te (fun K => ce_X11_inverse vl K 0 x y) (fun r => (r.1 = 1 ∧ r.2.2 = y ∧ noB (y.2.1 15) x ∨ ∃ b n l, b < 20 ∧ x = nI b ∧ 2 ≤ n ∧ n ≤ 5 ∧ y.2.1 15 b = nI n ∧ l ≤ 16 ∧ y.2.1 14 b = nI l ∧ (r.1 = 3 ∧ r.2.2 = y ∧ (∀ c, c < 20 → y.2.1 15 c ≠ 0) ∨ r.1 = 0 ∧ ∃ c, lfB (y.2.1 15) c ∧ r.2.1 = nI c ∧ brC r.2.2 ∧ fr bdQ y r.2.2 ∧ nwB 13 y r.2.2 c n l (fun i => -(y.2.1 13 (16 * b + (l - 1 - i))))))) := by
  let Q0 : ow_MS → Int32 → Nat × Int32 × ow_MS → Prop := fun y x r => (r.1 = 1 ∧ r.2.2 = y ∧ noB (y.2.1 15) x ∨ ∃ b n l, b < 20 ∧ x = nI b ∧ 2 ≤ n ∧ n ≤ 5 ∧ y.2.1 15 b = nI n ∧ l ≤ 16 ∧ y.2.1 14 b = nI l ∧ (r.1 = 3 ∧ r.2.2 = y ∧ (∀ c, c < 20 → y.2.1 15 c ≠ 0) ∨ r.1 = 0 ∧ ∃ c, lfB (y.2.1 15) c ∧ r.2.1 = nI c ∧ brC r.2.2 ∧ fr bdQ y r.2.2 ∧ nwB 13 y r.2.2 c n l (fun i => -(y.2.1 13 (16 * b + (l - 1 - i))))))
  refine e_X11_inverse ?_
  refine u_X11_inverse_0 ?_; unfold cm_X11_inverse_0
  refine w_tc0 (tc_needBraid (brC_E hB)) ?_ ?_
  · rintro y1 ⟨h1, rfl⟩
    rcases h1 with ⟨-, hb⟩ | h1
    · obtain ⟨b, n, l, hb20, rfl, hn2, hn5, e15, l16, e14, hw⟩ := isB_w hB hb
      refine w_tc1 tc_freeBraid ?_ ?_
      · rintro v y2 ⟨h2, rfl⟩
        rcases h2 with ⟨d, hd, -, rfl, e0, eall⟩ | h2
        · have hbd : b ≠ d := fun e => by
            rw [e, e0] at e15
            have := nI_inj9 (a := 0) (b := n) (by omega) (by omega) e15
            omega
          have c1 : ∀ (k i : Nat) (z : ow_MS), i + k = l → fr (fun g => g = 13) y2 z → (∀ k, k < 16 * d ∨ 16 * d + 16 ≤ k → z.2.1 13 k = y2.2.1 13 k) → wdB z d n i → (∀ j, j < i → z.2.1 13 (16 * d + j) = -(y2.2.1 13 (16 * b + (l - 1 - j)))) → Tt (fun K t => c_X11_inverse vl K t 1 (nI b) (nI d) (nI l) (nI i) 0 z) (Q0 y2 (nI b)) := by
            intro k
            induction k with
            | zero =>
              intro i z hi hf hk hwi hv
              have e : i = l := by omega
              subst e
              have z4 : z.2.1 14 = y2.2.1 14 := (hf 14 (by omega)).2.1
              have z5 : z.2.1 15 = y2.2.1 15 := (hf 15 (by omega)).2.1
              refine u_X11_inverse_1 ?_; unfold cm_X11_inverse_1
              refine w_leT (by omega) (by omega) (w_ctI ch_14 rfl hd (w_crI ch_15 rfl hb20 (rd_ot (by omega) ((congrFun z5 b).trans e15)) (w_ctI ch_15 rfl hd (w_some (Or.inr ⟨b, n, i, hb20, rfl, hn2, hn5, e15, l16, e14, Or.inr ⟨rfl, d, ⟨hd, e0, eall⟩, rfl, ?_, fr_I2 (fr_I2 (fr_mono (fun g hg => by rw [hg]; unfold bdQ; omega) hf) (by unfold bdQ; omega)) (by unfold bdQ; omega), po_usI_at, rd_ot (by omega) po_usI_at, fun j hj => rd_ot (by omega) (rd_ot (by omega) (hv j hj)), fun e he => ⟨rd_ne he (rd_ot (by omega) (congrFun z5 e)), rd_ot (by omega) (rd_ne he (congrFun z4 e)), fun j hj => rd_ot (by omega) (rd_ot (by omega) (hk _ (by omega)))⟩⟩⟩)))))
              refine brC_put (n := n) (l := i) hd hB (fun k hk9 => rd_ot (by omega) (rd_ot (by omega) (hk k hk9))) (fun k hk9 => rd_ot (by omega) (rd_ne hk9 (congrFun z4 k))) (fun k hk9 => rd_ne hk9 (rd_ot (by omega) (congrFun z5 k))) ⟨hn5, by omega⟩ po_usI_at (fun _ => ⟨l16, rd_ot (by omega) po_usI_at, fun j hj => ?_⟩)
              obtain ⟨a, a1, a2, a3⟩ := hwi j hj
              exact ⟨a, rd_ot (by omega) (rd_ot (by omega) a1), a2, a3⟩
            | succ k ih =>
              intro i z hi hf hk hwi hv
              obtain ⟨a, a1, a2, a3⟩ := hw (l - 1 - i) (by omega)
              have ea : z.2.1 13 (16 * b + l - 1 - i) = iI a := by
                rw [hk _ (by omega), show 16 * b + l - 1 - i = 16 * b + (l - 1 - i) by omega]
                exact a1
              refine u_X11_inverse_1 ?_; unfold cm_X11_inverse_1
              rw [m16, m16, nI_add, show nI (16 * b + l) - 1 = nI (16 * b + l - 1) from pk_sub (b := 1) (by omega), show nI (16 * b + l - 1) - nI i = nI (16 * b + l - 1 - i) from pk_sub (by omega), nI_add]
              refine w_leF (by omega) (by omega) (w_crI ch_13 rfl (show 16 * b + l - 1 - i < 320 by omega) ea (w_ctB ch_13 rfl (show 16 * d + i < 320 by omega) ?_))
              rw [(lt_a (a := a) (by omega)).2.2, (lt_a (a := -a) (by omega)).1, nI_1]
              refine ih (i + 1) _ (by omega) (fr_I2 hf rfl) (fun j hj => rd_ne (by omega) (hk j hj)) (fun j hj => ?_) (fun j hj => ?_)
              · by_cases e : j = i
                · rw [e]
                  exact ⟨-a, po_usI_at, by omega, by omega⟩
                · obtain ⟨a', q1, q2, q3⟩ := hwi j (by omega)
                  exact ⟨a', rd_ne (by omega) q1, q2, q3⟩
              · by_cases e : j = i
                · rw [e, a1, (lt_a (a := a) (by omega)).2.2]
                  exact po_usI_at
                · exact rd_ne (by omega) (hv j (by omega))
          exact w_crI ch_14 rfl hb20 e14 (c1 l 0 y2 (by omega) fr_rf (fun _ _ => rfl) (fun i hi => absurd hi (Nat.not_lt_zero _)) (fun i hi => absurd hi (Nat.not_lt_zero _)))
        · exact absurd (show (0 : Nat) = 3 from h2.1) (by decide)
      · rintro a v y2 ha ⟨h2, rfl⟩
        rcases h2 with ⟨d, -, q, -⟩ | h2
        · exact absurd q ha
        · exact w_some (Or.inr ⟨b, n, l, hb20, rfl, hn2, hn5, e15, l16, e14, Or.inl ⟨h2.1, rfl, h2.2⟩⟩)
    · exact absurd (show (0 : Nat) = 1 from h1.1) (by decide)
  · rintro a y1 ha ⟨h1, rfl⟩
    rcases h1 with h1 | h1
    · exact absurd h1.1 ha
    · exact w_some (Or.inl ⟨h1.1, rfl, h1.2⟩)
theorem noB_iff {z y : ow_MS} (h : relB z y) (hn : noB (z.2.1 96) x) : noB (y.2.1 15) x := fun b hb e => (h b hb).1.symm.trans (hn b hb e)
theorem b_inverse {X : (Nat → Nat → Int32) → Prop} {z : ow_MS} (hz : gI X z) (hB : brC y) (h : relB z y) : Te (fun K => qe_X13_inverse K x z) (fun rr => Te (fun K => ce_X11_inverse vl K 0 x y) (fun rc => relB rr.2 rc.2.2 ∧ gI X rr.2 ∧ brC rc.2.2 ∧ fr (fun g => rPs g ∨ 94 ≤ g ∧ g ≤ 96) z rr.2 ∧ fr bdQ y rc.2.2 ∧ ansI [(1, 1), (2, 3)] rr rc)) := by
  refine te_two (xq_inverse hz) (xc_inverse hB) (fun rr rc hr hc => ?_)
  have keep : ∀ {k : Nat}, rFl X z k rr → rc.2.2 = y → relB rr.2 rc.2.2 := fun hf e b hb => by
    have e6 := (hf.2.2 96 (by unfold rPs rSc; omega)).2.1
    have e5 := (hf.2.2 95 (by unfold rPs rSc; omega)).2.1
    have e4 := (hf.2.2 94 (by unfold rPs rSc; omega)).2.1
    rw [e, e6, e5, e4]
    exact h b hb
  have fail : ∀ {j k : Nat}, rFl X z j rr → (j, k) ∈ [(1, 1), (2, 3)] → rc.1 = k → rc.2.2 = y → relB rr.2 rc.2.2 ∧ gI X rr.2 ∧ brC rc.2.2 ∧ fr (fun g => rPs g ∨ 94 ≤ g ∧ g ≤ 96) z rr.2 ∧ fr bdQ y rc.2.2 ∧ ansI [(1, 1), (2, 3)] rr rc := fun {j k} hf hm e1 e2 => ⟨keep hf e2, hf.1, by rw [e2]; exact hB, fr_mono (fun g hg => Or.inl hg) hf.2.2, by rw [e2]; exact fr_rf, Or.inr ⟨j, k, hm, hf.2.1, e1⟩⟩
  rcases hr with ⟨r1, r2⟩ | ⟨a, n, l, a1, a2, a3, hr⟩
  · rcases hc with ⟨c1, c2, -⟩ | ⟨b, n, l, b1, b2, b3, b4, b5, -⟩
    · exact fail r1 (by simp) c1 c2
    · have := noB_iff h r2 b b1 b2
      rw [b5] at this
      exact absurd this (nI_ne0 (by omega) (by omega))
  · have n2 := a3.1
    have n5 := a3.2.1
    rcases hc with ⟨-, -, c3⟩ | ⟨b, n', l', b1, b2, b3, b4, b5, b6, b7, hc⟩
    · have := c3 a a1 a2
      rw [← (h a a1).1, a3.2.2.2.1] at this
      exact absurd this (nI_ne0 (by omega) (by omega))
    · have eab : a = b := nI_inj9 (by omega) (by omega) (a2.symm.trans b2)
      subst eab
      obtain ⟨k1, k2⟩ := h a a1
      have en : n = n' := nI_inj9 (by omega) (by omega) (a3.2.2.2.1.symm.trans (k1.trans b5))
      subst en
      obtain ⟨k3, k4⟩ := k2 (by rw [a3.2.2.2.1]; exact nI_ne0 (by omega) (by omega))
      have l16 := a3.2.2.1
      have el : l = l' := nI_inj9 (by omega) (by omega) (a3.2.2.2.2.1.symm.trans (k3.trans b7))
      subst el
      rcases hr with ⟨r1, r2⟩ | ⟨c, r1, r2, r3, r4, r5, r6⟩
      · rcases hc with ⟨c1, c2, -⟩ | ⟨-, c, c1, -⟩
        · exact fail r1 (by simp) c1 c2
        · exact absurd ((h c c1.1).1.trans c1.2.1) (r2 c c1.1)
      · rcases hc with ⟨-, -, c3⟩ | ⟨c0, c', c1, c2, c3, c4, c5⟩
        · exact absurd ((h c r1.1).1.symm.trans r1.2.1) (c3 c r1.1)
        · have ec := lfB_uni (fun b hb => (h b hb).1) r1 c1
          subst ec
          refine ⟨relB_new h l16 r6 c5 (fun i hi => ?_), r3, c3, fr_mono (fun g hg => ?_) r5, c4, Or.inl ⟨r4, c0, r2.trans c2.symm⟩⟩
          · show 0 - z.2.1 94 (16 * a + (l - 1 - i)) = -(y.2.1 13 (16 * a + (l - 1 - i)))
            rw [k4 l l16 a3.2.2.2.2.1 (l - 1 - i) (by omega), Int32.zero_sub]
          · rcases hg with hg | hg
            · exact Or.inl (Or.inl hg)
            · exact Or.inr hg
end XIC
end
section
/-! 99zzzzzzzzzx.xpr -/
/-! exact calls: product -/
def wpr (z : ow_MS) (g a l b i : Nat) : Int32 := if i < l then z.2.1 g (16 * a + i) else z.2.1 g (16 * b + (i - l))
section XPR
variable {X : (Nat → Nat → Int32) → Prop} {z : ow_MS}
theorem xq_product {a b : Int32} (h : gI X z) : Te (fun K => qe_X13_product K a b z) (fun r => (rFl X z 1 r ∧ (noB (z.2.1 96) a ∨ noB (z.2.1 96) b) ∨ ∃ a9 n l b9 n2 l2, a9 < 20 ∧ a = nI a9 ∧ hBr z a9 n l ∧ b9 < 20 ∧ b = nI b9 ∧ hBr z b9 n2 l2 ∧ (rFl X z 2 r ∧ n ≠ n2 ∨ n = n2 ∧ (rFl X z 3 r ∧ 16 < l + l2 ∨ l + l2 ≤ 16 ∧ (rFl X z 4 r ∧ (∀ c, c < 20 → z.2.1 96 c ≠ 0) ∨ ∃ c, lfB (z.2.1 96) c ∧ r.1 = nI c ∧ gI X r.2 ∧ r.2.1 1 = 0 ∧ fr (fun g => g = 1 ∨ 94 ≤ g ∧ g ≤ 96) z r.2 ∧ nwB 94 z r.2 c n (l + l2) (wpr z 94 a9 l b9)))))) := by
  let Q : Int32 × ow_MS → Prop := fun r => (rFl X z 1 r ∧ (noB (z.2.1 96) a ∨ noB (z.2.1 96) b) ∨ ∃ a9 n l b9 n2 l2, a9 < 20 ∧ a = nI a9 ∧ hBr z a9 n l ∧ b9 < 20 ∧ b = nI b9 ∧ hBr z b9 n2 l2 ∧ (rFl X z 2 r ∧ n ≠ n2 ∨ n = n2 ∧ (rFl X z 3 r ∧ 16 < l + l2 ∨ l + l2 ≤ 16 ∧ (rFl X z 4 r ∧ (∀ c, c < 20 → z.2.1 96 c ≠ 0) ∨ ∃ c, lfB (z.2.1 96) c ∧ r.1 = nI c ∧ gI X r.2 ∧ r.2.1 1 = 0 ∧ fr (fun g => g = 1 ∨ 94 ≤ g ∧ g ≤ 96) z r.2 ∧ nwB 94 z r.2 c n (l + l2) (wpr z 94 a9 l b9)))))
  have h1 := gI_1 (c := 0) h
  have hB := h1.2.2.2.2.2.1
  have c1 : (noB (z.2.1 96) a ∨ noB (z.2.1 96) b) → Tt (fun K k => q_X13_product K k 1 a b 0 0 0 0 (usF z 1 0)) Q := by
    intro hno
    refine u_X13_product_1 ?_; unfold qm_X13_product_1
    exact w_mono (w_failX (k := 1) h1 fr_1) (fun r hr => Or.inl ⟨hr, hno⟩)
  refine e_X13_product ?_
  refine u_X13_product_0 ?_; unfold qm_X13_product_0
  refine w_wrF (w_hasBX hB (fun h0 => w_ifT rfl (c1 (Or.inl h0))) (fun a9 n l ha hx hh => w_ifF (by decide) (w_hasBX hB (fun h0 => w_ifT rfl (c1 (Or.inr h0))) (fun b9 n2 l2 hb hy hh2 => w_ifF (by decide) ?_))))
  subst hx
  subst hy
  have hh0 := hh
  have hh20 := hh2
  have fin : ∀ {r}, (rFl X z 2 r ∧ n ≠ n2 ∨ n = n2 ∧ (rFl X z 3 r ∧ 16 < l + l2 ∨ l + l2 ≤ 16 ∧ (rFl X z 4 r ∧ (∀ c, c < 20 → z.2.1 96 c ≠ 0) ∨ ∃ c, lfB (z.2.1 96) c ∧ r.1 = nI c ∧ gI X r.2 ∧ r.2.1 1 = 0 ∧ fr (fun g => g = 1 ∨ 94 ≤ g ∧ g ≤ 96) z r.2 ∧ nwB 94 z r.2 c n (l + l2) (wpr z 94 a9 l b9)))) → Q r := fun hr => Or.inr ⟨a9, n, l, b9, n2, l2, ha, rfl, hh0, hb, rfl, hh20, hr⟩
  obtain ⟨p1, p2, p3, p4, p5, p6⟩ := hh
  obtain ⟨q1, q2, q3, q4, q5, q6⟩ := hh2
  refine w_rdI ml96 rfl (by omega) p4 (w_rdI ml96 rfl (by omega) q4 (w_eqN (by omega) (by omega) (fun hnn => w_rdI ml95 rfl (by omega) p5 (w_rdI ml95 rfl (by omega) q5 ?_)) (fun hnn => w_mono (w_failX (k := 2) h1 fr_1) (fun r hr => fin (Or.inl ⟨hr, hnn⟩)))))
  subst hnn
  rw [nI_add]
  refine w_le (b := 16) (by omega) (by omega) (fun h16 => w_freeBX hB (fun h0 => w_ifT rfl (w_mono (w_failX (k := 4) h1 fr_1) (fun r hr => fin (Or.inr ⟨rfl, Or.inr ⟨h16, Or.inl ⟨hr, h0⟩⟩⟩)))) (fun c hlf => w_ifF (rn_neg1 (by have := hlf.1; omega)) ?_)) (fun h16 => w_mono (w_failX (k := 3) h1 fr_1) (fun r hr => fin (Or.inr ⟨rfl, Or.inl ⟨hr, by omega⟩⟩)))
  have hc := hlf.1
  have hc0 := hlf.2.1
  have hca : c ≠ a9 := fun e => by
    rw [e, p4] at hc0
    exact nI_ne0 (by omega) (by omega) hc0
  have hcb : c ≠ b9 := fun e => by
    rw [e, q4] at hc0
    exact nI_ne0 (by omega) (by omega) hc0
  have main : ∀ (k i : Nat) (y : ow_MS), i + k = l + l2 → fr (fun g => g = 94) (usF z 1 0) y → (∀ d, d ≠ c → ∀ j, j < 16 → y.2.1 94 (16 * d + j) = (usF z 1 0).2.1 94 (16 * d + j)) → (∀ j, j < i → ltr n (y.2.1 94 (16 * c + j))) → (∀ j, j < i → y.2.1 94 (16 * c + j) = wpr z 94 a9 l b9 j) → Tt (fun K k9 => q_X13_product K k9 2 (nI a9) (nI b9) (nI c) (nI i) 0 0 y) Q := by
    intro k
    induction k with
    | zero =>
      intro i y hi hf hw hl hv
      have e5 := (hf 95 (by omega)).2.1
      have e6 := (hf 96 (by omega)).2.1
      have r5 : y.2.1 95 a9 = nI l := by rw [e5]; exact p5
      have s5 : y.2.1 95 b9 = nI l2 := by rw [e5]; exact q5
      have r6 : y.2.1 96 a9 = nI n := by rw [e6]; exact p4
      refine u_X13_product_2 ?_; unfold qm_X13_product_2
      refine w_rdI ml95 rfl (by omega) r5 (w_rdI ml95 rfl (by omega) s5 ?_)
      rw [nI_add]
      refine w_leT (by omega) (by omega) (w_rdI ml95 rfl (by omega) r5 (w_rdI ml95 rfl (by omega) s5 ?_))
      rw [nI_add]
      refine w_wrI ml95 rfl (by omega) (w_rdI ml96 rfl (by omega) (rd_ot (by decide) r6) (w_wrI ml96 rfl (by omega) (w_some ?_)))
      have f3 : fr (fun g => g = 94 ∨ g = 95 ∨ g = 96) (usF z 1 0) (usI (usI y 95 c (nI (l + l2))) 96 c (nI n)) := fr_I2 (fr_I2 (fr_mono (fun g hg => Or.inl hg) hf) (Or.inr (Or.inl rfl))) (Or.inr (Or.inr rfl))
      have e4 : (usI (usI y 95 c (nI (l + l2))) 96 c (nI n)).2.1 94 = y.2.1 94 := by rw [po_usI_ot (by decide), po_usI_ot (by decide)]
      have k5 : (usI (usI y 95 c (nI (l + l2))) 96 c (nI n)).2.1 95 c = nI (l + l2) := rd_ot (by decide) po_usI_at
      refine fin (Or.inr ⟨rfl, Or.inr ⟨h16, Or.inr ⟨c, hlf, rfl, gI_br f3 (fun g hg => Or.inl (by omega)) (gBrs_new hB (c := c) (n := n) (l := l + l2) ⟨p1, p2, by omega, po_usI_at, k5, fun j hj => ?_⟩ (fun d hd => ?_) (fun d hd => ?_) (fun d hd j hj => ?_)) h1, ?_, fr_tr (fr_F (Or.inl rfl)) (fr_mono (fun g hg => by omega) f3), po_usI_at, k5, fun j hj => ?_, fun d hd => ⟨?_, ?_, fun j hj => ?_⟩⟩⟩⟩)
      · rw [e4]
        exact hl j (by omega)
      · rw [po_usI_ne hd, po_usI_ot (by decide), e6]
      · rw [po_usI_ot (by decide), po_usI_ne hd, e5]
      · rw [e4]
        exact hw d hd j hj
      · show (usI (usI y 95 c (nI (l + l2))) 96 c (nI n)).1 1 = 0
        rw [(f3 1 (by omega)).1]
        exact po_usF_at
      · show (usI (usI y 95 c (nI (l + l2))) 96 c (nI n)).2.1 94 (16 * c + j) = _
        rw [e4]
        exact hv j (by omega)
      · show (usI (usI y 95 c (nI (l + l2))) 96 c (nI n)).2.1 96 d = _
        rw [po_usI_ne hd, po_usI_ot (by decide), e6]
        rfl
      · show (usI (usI y 95 c (nI (l + l2))) 96 c (nI n)).2.1 95 d = _
        rw [po_usI_ot (by decide), po_usI_ne hd, e5]
        rfl
      · show (usI (usI y 95 c (nI (l + l2))) 96 c (nI n)).2.1 94 (16 * d + j) = _
        rw [e4]
        exact hw d hd j hj
    | succ k ih =>
      intro i y hi hf hw hl hv
      have e5 := (hf 95 (by omega)).2.1
      have r5 : y.2.1 95 a9 = nI l := by rw [e5]; exact p5
      have s5 : y.2.1 95 b9 = nI l2 := by rw [e5]; exact q5
      have c3 : ∀ t0 : Int32, ltr n t0 → t0 = wpr z 94 a9 l b9 i → Tt (fun K k9 => q_X13_product K k9 3 (nI a9) (nI b9) (nI c) (nI i) t0 (nI (16 * c + i)) y) Q := by
        intro t0 ht0 ht1
        refine u_X13_product_3 ?_; unfold qm_X13_product_3
        rw [nI_1]
        refine w_wrI ml94 rfl (by omega) (ih (i + 1) _ (by omega) (fr_I2 hf rfl) (fun d hd j hj => rd_ne (by omega) (hw d hd j hj)) (fun j hj => ?_) (fun j hj => ?_))
        · by_cases hji : j = i
          · rw [hji, po_usI_at]
            exact ht0
          · rw [po_usI_ne (by omega)]
            exact hl j (by omega)
        · by_cases hji : j = i
          · rw [hji, po_usI_at]
            exact ht1
          · rw [po_usI_ne (by omega)]
            exact hv j (by omega)
      refine u_X13_product_2 ?_; unfold qm_X13_product_2
      refine w_rdI ml95 rfl (by omega) r5 (w_rdI ml95 rfl (by omega) s5 ?_)
      rw [nI_add, show (16 : Int32) * nI c = nI (16 * c) from pk_mul 16 c, nI_add, show (16 : Int32) * nI b9 = nI (16 * b9) from pk_mul 16 b9, nI_add, show (16 : Int32) * nI a9 = nI (16 * a9) from pk_mul 16 a9, nI_add]
      refine w_leF (by omega) (by omega) (w_rdI ml95 rfl (by omega) r5 (w_le (by omega) (by omega) (fun h9 => w_rdI ml95 rfl (by omega) r5 ?_) (fun h9 => ?_)))
      · rw [pk_sub (by omega)]
        have e9 : y.2.1 94 (16 * b9 + i - l) = z.2.1 94 (16 * b9 + (i - l)) := by
          rw [show 16 * b9 + i - l = 16 * b9 + (i - l) by omega, hw b9 (fun e => hcb e.symm) _ (by omega)]
          rfl
        refine w_rdI ml94 rfl (by omega) e9 (c3 _ (q6 _ (by omega)) ?_)
        unfold wpr
        rw [if_neg (by omega)]
      · have e9 : y.2.1 94 (16 * a9 + i) = z.2.1 94 (16 * a9 + i) := hw a9 (fun e => hca e.symm) _ (by omega)
        refine w_rdI ml94 rfl (by omega) e9 (c3 _ (p6 _ (by omega)) ?_)
        unfold wpr
        rw [if_pos (by omega)]
  exact main (l + l2) 0 (usF z 1 0) (by omega) fr_rf (fun _ _ _ _ => rfl) (fun j hj => by omega) (fun j hj => by omega)
end XPR
section XPC
variable {vl : Nat → Nat} {y : ow_MS} {x x' : Int32}
theorem xc_product (hB : brC y) : Te (fun K => ce_X11_product vl K 0 x x' y) (fun r => (r.1 = 1 ∧ r.2.2 = y ∧ (noB (y.2.1 15) x ∨ noB (y.2.1 15) x') ∨ ∃ a n l b n' l', a < 20 ∧ x = nI a ∧ 2 ≤ n ∧ n ≤ 5 ∧ y.2.1 15 a = nI n ∧ l ≤ 16 ∧ y.2.1 14 a = nI l ∧ b < 20 ∧ x' = nI b ∧ 2 ≤ n' ∧ n' ≤ 5 ∧ y.2.1 15 b = nI n' ∧ l' ≤ 16 ∧ y.2.1 14 b = nI l' ∧ (r.1 = 2 ∧ r.2.2 = y ∧ n ≠ n' ∨ n = n' ∧ (r.1 = 4 ∧ r.2.2 = y ∧ 16 < l + l' ∨ l + l' ≤ 16 ∧ (r.1 = 3 ∧ r.2.2 = y ∧ (∀ c, c < 20 → y.2.1 15 c ≠ 0) ∨ r.1 = 0 ∧ ∃ c, lfB (y.2.1 15) c ∧ r.2.1 = nI c ∧ brC r.2.2 ∧ fr bdQ y r.2.2 ∧ nwB 13 y r.2.2 c n (l + l') (wpr y 13 a l b)))))) := by
  refine e_X11_product ?_; unfold cm_X11_product_0
  refine w_tc0 (tc_needBraid (brC_E hB)) ?_ ?_
  · rintro y1 ⟨h1, rfl⟩
    rcases h1 with ⟨-, hb⟩ | h1
    · obtain ⟨a, n, l, ha20, rfl, hn2, hn5, e15, l16, e14, hw⟩ := isB_w hB hb
      refine w_tc0 (tc_needBraid (brC_E hB)) ?_ ?_
      · rintro y2 ⟨h2, rfl⟩
        rcases h2 with ⟨-, hb'⟩ | h2
        · obtain ⟨b, n', l', hb20, rfl, hn2', hn5', e15', l16', e14', hw'⟩ := isB_w hB hb'
          refine w_crI ch_15 rfl ha20 e15 (w_crI ch_15 rfl hb20 e15' (w_eqN (by omega) (by omega) (fun enn => w_crI ch_14 rfl ha20 e14 (w_crI ch_14 rfl hb20 e14' ?_)) (fun enn => w_some (Or.inr ⟨a, n, l, b, n', l', ha20, rfl, hn2, hn5, e15, l16, e14, hb20, rfl, hn2', hn5', e15', l16', e14', Or.inl ⟨rfl, rfl, enn⟩⟩))))
          rw [nI_add]
          refine w_le (b := 16) (by omega) (by omega) (fun h16 => ?_) (fun h16 => w_some (Or.inr ⟨a, n, l, b, n', l', ha20, rfl, hn2, hn5, e15, l16, e14, hb20, rfl, hn2', hn5', e15', l16', e14', Or.inr ⟨enn, Or.inl ⟨rfl, rfl, by omega⟩⟩⟩))
          refine w_tc1 tc_freeBraid ?_ ?_
          · rintro v y3 ⟨h3, rfl⟩
            rcases h3 with ⟨d, hd, -, rfl, e0, eall⟩ | h3
            · have had : a ≠ d := fun e => by
                rw [e, e0] at e15
                have := nI_inj9 (a := 0) (b := n) (by omega) (by omega) e15
                omega
              have hbd : b ≠ d := fun e => by
                rw [e, e0] at e15'
                have := nI_inj9 (a := 0) (b := n') (by omega) (by omega) e15'
                omega
              rw [m16, m16, m16]
              refine w_crI ch_14 rfl ha20 e14 ?_
              have cpb : ∀ {E : ow_MS → Nat → Nat → Option (Nat × Int32 × ow_MS)} {Q : Nat × Int32 × ow_MS → Prop} (z : ow_MS) (s t m : Nat), s + m ≤ 320 → t + m ≤ 320 → (∀ i, i < m → fits .byte (.int (z.2.1 13 (s + i))) = true) → Tt (E (usR z 13 (va_cpy (z.2.1 13) (z.2.1 13) s t m))) Q → Tt (fun K k => cpB (cX vl) z 13 (nI s) 13 (nI t) (nI m) (fun v => E v K k)) Q := by
                intro E Q z s t m h1 h2 h3 H
                unfold cpB
                refine w_ifT (fun i hi => ?_) (w_cpI (a := s) (b := t) (n := m) ch_13 ch_13 rfl rfl rfl h1 h2 H)
                rw [nI_clamp (by omega)] at hi
                rw [nI_clamp (by omega)]
                exact h3 i hi
              refine cpb y3 (16 * a) (16 * d) l (by omega) (by omega) (fun i hi => ?_) ?_
              · obtain ⟨q, q1, q2, q3⟩ := hw i hi
                rw [q1]
                exact (lt_a (by omega)).2.1
              · have k4 : (usR y3 13 (va_cpy (y3.2.1 13) (y3.2.1 13) (16 * a) (16 * d) l)).2.1 14 = y3.2.1 14 := usR_ot (by omega)
                have k3 : ∀ k, k < 16 * d ∨ 16 * d + 16 ≤ k → (usR y3 13 (va_cpy (y3.2.1 13) (y3.2.1 13) (16 * a) (16 * d) l)).2.1 13 k = y3.2.1 13 k := by
                  intro k hk
                  rw [usR_at]
                  exact pk_cpy_out (by omega)
                have k3' : ∀ i, i < l → (usR y3 13 (va_cpy (y3.2.1 13) (y3.2.1 13) (16 * a) (16 * d) l)).2.1 13 (16 * d + i) = y3.2.1 13 (16 * a + i) := by
                  intro i hi
                  rw [usR_at, pk_cpy_in (by omega) (by omega), show 16 * d + i - 16 * d = i by omega]
                have f1 : fr (fun g => g = 13) y3 (usR y3 13 (va_cpy (y3.2.1 13) (y3.2.1 13) (16 * a) (16 * d) l)) := fr_R2 fr_rf rfl
                generalize usR y3 13 (va_cpy (y3.2.1 13) (y3.2.1 13) (16 * a) (16 * d) l) = z1 at k4 k3 k3' f1
                refine w_crI ch_14 rfl ha20 ((congrFun k4 a).trans e14) (w_crI ch_14 rfl hb20 ((congrFun k4 b).trans e14') ?_)
                rw [nI_add]
                refine cpb z1 (16 * b) (16 * d + l) l' (by omega) (by omega) (fun i hi => ?_) ?_
                · obtain ⟨q, q1, q2, q3⟩ := hw' i hi
                  rw [k3 _ (by omega), q1]
                  exact (lt_a (by omega)).2.1
                · have j4 : (usR z1 13 (va_cpy (z1.2.1 13) (z1.2.1 13) (16 * b) (16 * d + l) l')).2.1 14 = y3.2.1 14 := (usR_ot (by omega)).trans k4
                  have j5 : (usR z1 13 (va_cpy (z1.2.1 13) (z1.2.1 13) (16 * b) (16 * d + l) l')).2.1 15 = y3.2.1 15 := (usR_ot (by omega)).trans (f1 15 (by omega)).2.1
                  have j3 : ∀ k, k < 16 * d ∨ 16 * d + 16 ≤ k → (usR z1 13 (va_cpy (z1.2.1 13) (z1.2.1 13) (16 * b) (16 * d + l) l')).2.1 13 k = y3.2.1 13 k := by
                    intro k hk
                    rw [usR_at, pk_cpy_out (by omega)]
                    exact k3 k hk
                  have jw : ∀ i, i < l + l' → ∃ q : Int, (usR z1 13 (va_cpy (z1.2.1 13) (z1.2.1 13) (16 * b) (16 * d + l) l')).2.1 13 (16 * d + i) = iI q ∧ 1 ≤ q.natAbs ∧ q.natAbs < n := by
                    intro i hi
                    rw [usR_at]
                    by_cases e : i < l
                    · obtain ⟨q, q1, q2, q3⟩ := hw i e
                      rw [pk_cpy_out (by omega), k3' i e]
                      exact ⟨q, q1, q2, q3⟩
                    · obtain ⟨q, q1, q2, q3⟩ := hw' (i - l) (by omega)
                      rw [pk_cpy_in (by omega) (by omega), show 16 * b + (16 * d + i - (16 * d + l)) = 16 * b + (i - l) by omega, k3 _ (by omega)]
                      exact ⟨q, q1, q2, by omega⟩
                  have jv : ∀ i, i < l + l' → (usR z1 13 (va_cpy (z1.2.1 13) (z1.2.1 13) (16 * b) (16 * d + l) l')).2.1 13 (16 * d + i) = wpr y3 13 a l b i := by
                    intro i hi
                    rw [usR_at]
                    unfold wpr
                    by_cases e : i < l
                    · rw [pk_cpy_out (by omega), k3' i e, if_pos e]
                    · rw [pk_cpy_in (by omega) (by omega), show 16 * b + (16 * d + i - (16 * d + l)) = 16 * b + (i - l) by omega, k3 _ (by omega), if_neg e]
                  have f2 : fr (fun g => g = 13) y3 (usR z1 13 (va_cpy (z1.2.1 13) (z1.2.1 13) (16 * b) (16 * d + l) l')) := fr_R2 f1 rfl
                  generalize usR z1 13 (va_cpy (z1.2.1 13) (z1.2.1 13) (16 * b) (16 * d + l) l') = z2 at j4 j5 j3 jw jv f2
                  refine w_crI ch_14 rfl ha20 ((congrFun j4 a).trans e14) (w_crI ch_14 rfl hb20 ((congrFun j4 b).trans e14') ?_)
                  rw [nI_add]
                  refine w_ctI ch_14 rfl hd (w_crI ch_15 rfl ha20 (rd_ot (by omega) ((congrFun j5 a).trans e15)) (w_ctI ch_15 rfl hd (w_some (Or.inr ⟨a, n, l, b, n', l', ha20, rfl, hn2, hn5, e15, l16, e14, hb20, rfl, hn2', hn5', e15', l16', e14', Or.inr ⟨enn, Or.inr ⟨h16, Or.inr ⟨rfl, d, ⟨hd, e0, eall⟩, rfl, ?_, fr_I2 (fr_I2 (fr_mono (fun g hg => by rw [hg]; unfold bdQ; omega) f2) (by unfold bdQ; omega)) (by unfold bdQ; omega), po_usI_at, rd_ot (by omega) po_usI_at, fun j hj => rd_ot (by omega) (rd_ot (by omega) (jv j hj)), fun e he => ⟨rd_ne he (rd_ot (by omega) (congrFun j5 e)), rd_ot (by omega) (rd_ne he (congrFun j4 e)), fun j hj => rd_ot (by omega) (rd_ot (by omega) (j3 _ (by omega)))⟩⟩⟩⟩⟩))))
                  refine brC_put (n := n) (l := l + l') hd hB (fun k hk9 => rd_ot (by omega) (rd_ot (by omega) (j3 k hk9))) (fun k hk9 => rd_ot (by omega) (rd_ne hk9 (congrFun j4 k))) (fun k hk9 => rd_ne hk9 (rd_ot (by omega) (congrFun j5 k))) ⟨hn5, by omega⟩ po_usI_at (fun _ => ⟨h16, rd_ot (by omega) po_usI_at, fun j hj => ?_⟩)
                  obtain ⟨q, a1, a2, a3⟩ := jw j hj
                  exact ⟨q, rd_ot (by omega) (rd_ot (by omega) a1), a2, a3⟩
            · exact absurd (show (0 : Nat) = 3 from h3.1) (by decide)
          · rintro q v y3 ha ⟨h3, rfl⟩
            rcases h3 with ⟨d, -, q9, -⟩ | h3
            · exact absurd q9 ha
            · exact w_some (Or.inr ⟨a, n, l, b, n', l', ha20, rfl, hn2, hn5, e15, l16, e14, hb20, rfl, hn2', hn5', e15', l16', e14', Or.inr ⟨enn, Or.inr ⟨h16, Or.inl ⟨h3.1, rfl, h3.2⟩⟩⟩⟩)
        · exact absurd (show (0 : Nat) = 1 from h2.1) (by decide)
      · rintro q y2 ha ⟨h2, rfl⟩
        rcases h2 with h2 | h2
        · exact absurd h2.1 ha
        · exact w_some (Or.inl ⟨h2.1, rfl, Or.inr h2.2⟩)
    · exact absurd (show (0 : Nat) = 1 from h1.1) (by decide)
  · rintro q y1 ha ⟨h1, rfl⟩
    rcases h1 with h1 | h1
    · exact absurd h1.1 ha
    · exact w_some (Or.inl ⟨h1.1, rfl, Or.inl h1.2⟩)
end XPC
end
section
/-! 99zzzzzzzzzy.xbo3 -/
/-! both sides: product, dropBraid -/
section XB3
variable {X : (Nat → Nat → Int32) → Prop} {z y : ow_MS} {vl : Nat → Nat} {x x' : Int32}
theorem relB_fail {k : Nat} {rr : Int32 × ow_MS} (h : relB z y) (hf : rFl X z k rr) : relB rr.2 y := fun b hb => by
  have e6 := (hf.2.2 96 (by unfold rPs rSc; omega)).2.1
  have e5 := (hf.2.2 95 (by unfold rPs rSc; omega)).2.1
  have e4 := (hf.2.2 94 (by unfold rPs rSc; omega)).2.1
  rw [e6, e5, e4]
  exact h b hb
/-- what is known of one braid on both sides -/
theorem relB_at {a n l n' l' : Nat} (h : relB z y) (ha : a < 20) (h1 : hBr z a n l) (n2 : 2 ≤ n') (n5 : n' ≤ 5) (e15 : y.2.1 15 a = nI n') (l16 : l' ≤ 16) (e14 : y.2.1 14 a = nI l') : n = n' ∧ l = l' ∧ ∀ i, i < l → z.2.1 94 (16 * a + i) = y.2.1 13 (16 * a + i) := by
  obtain ⟨p1, p2, p3, p4, p5, p6⟩ := h1
  obtain ⟨k1, k2⟩ := h a ha
  have en : n = n' := nI_inj9 (by omega) (by omega) (p4.symm.trans (k1.trans e15))
  obtain ⟨k3, k4⟩ := k2 (by rw [p4]; exact nI_ne0 (by omega) (by omega))
  exact ⟨en, nI_inj9 (by omega) (by omega) (p5.symm.trans (k3.trans e14)), k4 l p3 p5⟩
theorem b_product (hz : gI X z) (hB : brC y) (h : relB z y) : Te (fun K => qe_X13_product K x x' z) (fun rr => Te (fun K => ce_X11_product vl K 0 x x' y) (fun rc => relB rr.2 rc.2.2 ∧ gI X rr.2 ∧ brC rc.2.2 ∧ fr (fun g => rPs g ∨ 94 ≤ g ∧ g ≤ 96) z rr.2 ∧ fr bdQ y rc.2.2 ∧ ansI [(1, 1), (2, 2), (3, 4), (4, 3)] rr rc)) := by
  refine te_two (xq_product hz) (xc_product hB) (fun rr rc hr hc => ?_)
  have fail : ∀ {j k : Nat}, rFl X z j rr → (j, k) ∈ [(1, 1), (2, 2), (3, 4), (4, 3)] → rc.1 = k → rc.2.2 = y → relB rr.2 rc.2.2 ∧ gI X rr.2 ∧ brC rc.2.2 ∧ fr (fun g => rPs g ∨ 94 ≤ g ∧ g ≤ 96) z rr.2 ∧ fr bdQ y rc.2.2 ∧ ansI [(1, 1), (2, 2), (3, 4), (4, 3)] rr rc := fun {j k} hf hm e1 e2 => ⟨by rw [e2]; exact relB_fail h hf, hf.1, by rw [e2]; exact hB, fr_mono (fun g hg => Or.inl hg) hf.2.2, by rw [e2]; exact fr_rf, Or.inr ⟨j, k, hm, hf.2.1, e1⟩⟩
  have nz : ∀ {b n : Nat} {x : Int32}, b < 20 → x = nI b → 2 ≤ n → n ≤ 5 → y.2.1 15 b = nI n → ¬ noB (z.2.1 96) x := fun {b n x} b1 b2 b3 b4 b5 hn => by
    have := noB_iff h hn b b1 b2
    rw [b5] at this
    exact absurd this (nI_ne0 (by omega) (by omega))
  have ny : ∀ {b n l : Nat} {x : Int32}, b < 20 → x = nI b → hBr z b n l → ¬ noB (y.2.1 15) x := fun {b n l x} b1 b2 b3 hn => by
    have := hn b b1 b2
    rw [← (h b b1).1, b3.2.2.2.1] at this
    exact absurd this (nI_ne0 (by have := b3.1; omega) (by have := b3.2.1; omega))
  rcases hr with ⟨r1, r2⟩ | ⟨a, n, l, b, m, k, a1, a2, a3, b1, b2, b3, hr⟩
  · rcases hc with ⟨c1, c2, -⟩ | ⟨a, n, l, b, m, k, a1, a2, a3, a4, a5, a6, a7, b1, b2, b3, b4, b5, -⟩
    · exact fail r1 (by simp) c1 c2
    · rcases r2 with r2 | r2
      · exact absurd r2 (nz a1 a2 a3 a4 a5)
      · exact absurd r2 (nz b1 b2 b3 b4 b5)
  · rcases hc with ⟨-, -, c3⟩ | ⟨a', n', l', b', m', k', a1', a2', a3', a4', a5', a6', a7', b1', b2', b3', b4', b5', b6', b7', hc⟩
    · rcases c3 with c3 | c3
      · exact absurd c3 (ny a1 a2 a3)
      · exact absurd c3 (ny b1 b2 b3)
    · have ea : a = a' := nI_inj9 (by omega) (by omega) (a2.symm.trans a2')
      subst ea
      have eb : b = b' := nI_inj9 (by omega) (by omega) (b2.symm.trans b2')
      subst eb
      obtain ⟨q1, q2, q3⟩ := relB_at h a1 a3 a3' a4' a5' a6' a7'
      subst q1
      subst q2
      obtain ⟨q1, q2, q4⟩ := relB_at h b1 b3 b3' b4' b5' b6' b7'
      subst q1
      subst q2
      rcases hr with ⟨r1, r2⟩ | ⟨r2, hr⟩
      · rcases hc with ⟨c1, c2, -⟩ | ⟨c3, -⟩
        · exact fail r1 (by simp) c1 c2
        · exact absurd c3 r2
      · rcases hc with ⟨-, -, c3⟩ | ⟨-, hc⟩
        · exact absurd r2 c3
        · rcases hr with ⟨r1, r3⟩ | ⟨r3, hr⟩
          · rcases hc with ⟨c1, c2, -⟩ | ⟨c3, -⟩
            · exact fail r1 (by simp) c1 c2
            · omega
          · rcases hc with ⟨-, -, c3⟩ | ⟨-, hc⟩
            · omega
            · rcases hr with ⟨r1, r4⟩ | ⟨c, r1, r4, r5, r6, r7, r8⟩
              · rcases hc with ⟨c1, c2, -⟩ | ⟨-, c, c1, -⟩
                · exact fail r1 (by simp) c1 c2
                · exact absurd ((h c c1.1).1.trans c1.2.1) (r4 c c1.1)
              · rcases hc with ⟨-, -, c3⟩ | ⟨c0, c', c1, c2, c3, c4, c5⟩
                · exact absurd ((h c r1.1).1.symm.trans r1.2.1) (c3 c r1.1)
                · have ec := lfB_uni (fun b hb => (h b hb).1) r1 c1
                  subst ec
                  refine ⟨relB_new h r3 r8 c5 (fun i hi => ?_), r5, c3, fr_mono (fun g hg => ?_) r7, c4, Or.inl ⟨r6, c0, r4.trans c2.symm⟩⟩
                  · unfold wpr
                    split
                    · exact q3 i (by omega)
                    · exact q4 (i - l) (by omega)
                  · rcases hg with hg | hg
                    · exact Or.inl (Or.inl hg)
                    · exact Or.inr hg
theorem xc_dropBraid (hB : brC y) : Te (fun K => ce_X11_dropBraid vl K 0 x y) (fun r => brC r.2 ∧ (r.1 = 0 ∧ r.2 = y ∧ noB (y.2.1 15) x ∨ r.1 = 1 ∧ ∃ b n, b < 20 ∧ x = nI b ∧ 1 ≤ n ∧ n ≤ 5 ∧ y.2.1 15 b = nI n ∧ r.2 = usI y 15 b 0)) := by
  refine e_X11_dropBraid ?_; unfold cm_X11_dropBraid_0
  refine w_cs1 (tc_hasBraid (brC_E hB)) ?_
  rintro v y1 ⟨hv, e2⟩
  dsimp only at hv e2
  subst e2
  rcases hv with ⟨rfl, h1⟩ | ⟨rfl, h1⟩
  · obtain ⟨d, n, hd, rfl, k1, k2, k3⟩ := h1
    refine w_ifF (by decide) (w_ctI ch_15 rfl hd (w_okZ (Or.inr rfl) (w_some ⟨fun e he => ?_, Or.inr ⟨rfl, d, n, hd, rfl, k2, k3, k1, rfl⟩⟩)))
    by_cases ed : e = d
    · rw [ed]
      exact ⟨0, 0, by omega, by omega, po_usI_at, fun h9 => by omega⟩
    · obtain ⟨m, l, q1, q2, q3, q4⟩ := hB e he
      refine ⟨m, l, q1, q2, rd_ne ed q3, fun h9 => ?_⟩
      obtain ⟨s1, s2, s3⟩ := q4 h9
      refine ⟨s1, rd_ot (by omega) s2, fun i hi => ?_⟩
      obtain ⟨w, w1, w2, w3⟩ := s3 i hi
      exact ⟨w, rd_ot (by omega) w1, w2, w3⟩
  · exact w_ifT rfl (w_okZ (Or.inl rfl) (w_some ⟨hB, Or.inl ⟨rfl, rfl, h1⟩⟩))
theorem xq_dropBraid (h : gI X z) : Te (fun K => qe_X13_dropBraid K x z) (fun r => gI X r.2 ∧ (r.1 = 0 ∧ r.2 = usF z 1 0 ∧ noB (z.2.1 96) x ∨ r.1 = 1 ∧ ∃ b n l, b < 20 ∧ x = nI b ∧ hBr z b n l ∧ r.2 = usI (usF z 1 0) 96 b 0)) := by
  have h1 := gI_1 (c := 0) h
  refine e_X13_dropBraid ?_; unfold qm_X13_dropBraid_0
  refine w_wrF (w_hasBX h1.2.2.2.2.2.1 (fun h0 => w_ifT rfl (w_okZ (Or.inl rfl) (w_some ⟨h1, Or.inl ⟨rfl, rfl, h0⟩⟩))) (fun c n l hc hx hh => w_ifF (by decide) ?_))
  subst hx
  refine w_wrI ml96 rfl (by omega) (w_okZ (Or.inr rfl) (w_some ⟨?_, Or.inr ⟨rfl, c, n, l, hc, rfl, hh, rfl⟩⟩))
  refine gI_br (P := fun g => g = 96) (fr_I rfl) (fun g hg => Or.inl (by omega)) (fun d hd => ?_) h1
  by_cases hdc : d = c
  · rw [hdc]
    exact ⟨0, 0, by omega, by omega, po_usI_at, fun h9 => by omega⟩
  · rcases gBr_h (h1.2.2.2.2.2.1 d hd) with e | ⟨n2, l2, hh2⟩
    · exact ⟨0, 0, by omega, by omega, rd_ne hdc e, fun h9 => by omega⟩
    · exact hBr_g (hBr_eq hh2 (po_usI_ne hdc) (congrFun (po_usI_ot (by decide)) _) (fun i _ => congrFun (po_usI_ot (by decide)) _))
theorem b_dropBraid (hz : gI X z) (hB : brC y) (h : relB z y) : Te (fun K => qe_X13_dropBraid K x z) (fun rr => Te (fun K => ce_X11_dropBraid vl K 0 x y) (fun rc => relB rr.2 rc.2 ∧ gI X rr.2 ∧ brC rc.2 ∧ fr (fun g => rPs g ∨ 94 ≤ g ∧ g ≤ 96) z rr.2 ∧ fr bdQ y rc.2 ∧ rr.2.1 1 = 0 ∧ rr.1 = rc.1)) := by
  refine te_two (xq_dropBraid hz) (xc_dropBraid hB) (fun rr rc hr hc => ?_)
  obtain ⟨hI, hr⟩ := hr
  obtain ⟨hB2, hc⟩ := hc
  rcases hr with ⟨r1, r2, r3⟩ | ⟨r1, b, n, l, b1, b2, b3, r2⟩
  · rcases hc with ⟨c1, c2, c3⟩ | ⟨c1, b, n, b1, b2, b3, b4, b5, c2⟩
    · refine ⟨?_, hI, hB2, ?_, by rw [c2]; exact fr_rf, by rw [r2]; exact po_usF_at, r1.trans c1.symm⟩
      · rw [r2, c2]
        exact h
      · rw [r2]
        exact fr_F (Or.inl (Or.inl rfl))
    · have := noB_iff h r3 b b1 b2
      rw [b5] at this
      exact absurd this (nI_ne0 (by omega) (by omega))
  · rcases hc with ⟨c1, c2, c3⟩ | ⟨c1, b', n', b1', b2', b3', b4', b5', c2⟩
    · have := c3 b b1 b2
      rw [← (h b b1).1, b3.2.2.2.1] at this
      exact absurd this (nI_ne0 (by have := b3.1; omega) (by have := b3.2.1; omega))
    · have eb : b = b' := nI_inj9 (by omega) (by omega) (b2.symm.trans b2')
      subst eb
      refine ⟨fun d hd => ?_, hI, hB2, ?_, ?_, ?_, r1.trans c1.symm⟩
      · rw [r2, c2]
        by_cases ed : d = b
        · rw [ed]
          have e0 : (usI (usF z 1 0) 96 b 0).2.1 96 b = 0 := po_usI_at
          exact ⟨e0.trans po_usI_at.symm, fun h9 => absurd e0 h9⟩
        · obtain ⟨k1, k2⟩ := h d hd
          have e6 : (usI (usF z 1 0) 96 b 0).2.1 96 d = z.2.1 96 d := po_usI_ne ed
          have e5 : (usI (usF z 1 0) 96 b 0).2.1 95 = z.2.1 95 := po_usI_ot (by decide)
          have e4 : (usI (usF z 1 0) 96 b 0).2.1 94 = z.2.1 94 := po_usI_ot (by decide)
          have f6 : (usI y 15 b 0).2.1 15 d = y.2.1 15 d := po_usI_ne ed
          have f5 : (usI y 15 b 0).2.1 14 = y.2.1 14 := po_usI_ot (by decide)
          have f4 : (usI y 15 b 0).2.1 13 = y.2.1 13 := po_usI_ot (by decide)
          rw [e6, e5, e4, f6, f5, f4]
          exact ⟨k1, k2⟩
      · rw [r2]
        exact fr_I2 (fr_F (Or.inl (Or.inl rfl))) (Or.inr (by omega))
      · rw [c2]
        exact fr_I (by unfold bdQ; omega)
      · rw [r2]
        exact (show (usF z 1 0).1 1 = 0 from po_usF_at)
end XB3
end
section
/-! 99zzzzzzzzzz.xbd -/
/-! exact calls: braid, of the reference -/
/-- a letter of the tape, as a generator -/
def lwd (n : Nat) (v w : Int32) : Prop := (∃ a, a < n - 1 ∧ v - 97 = nI a ∧ w = nI (a + 1)) ∨ ¬ in9 (v - 97) (n - 1) ∧ ∃ a, a < n - 1 ∧ v - 65 = nI a ∧ w = -1 - nI a
def lbad (n : Nat) (v : Int32) : Prop := ¬ in9 (v - 97) (n - 1) ∧ ¬ in9 (v - 65) (n - 1)
/-- nothing kept was written but at the free place c -/
def sbB (g : Nat) (z z1 : ow_MS) (c : Nat) : Prop := z1.2.1 (g + 2) = z.2.1 (g + 2) ∧ z1.2.1 (g + 1) = z.2.1 (g + 1) ∧ ∀ d, d ≠ c → ∀ i, i < 16 → z1.2.1 g (16 * d + i) = z.2.1 g (16 * d + i)
section XBD
variable {X : (Nat → Nat → Int32) → Prop} {z : ow_MS}
theorem xq_braid {x : Int32} {t : Nat} (h : gI X z) (ht : t ≤ 400) (h11 : z.1 11 = nI t) : Te (fun K => qe_X13_braid K x z) (fun r => (rFl X z 1 r ∧ ¬ (∃ n, 2 ≤ n ∧ n ≤ 5 ∧ x = nI n) ∨ ∃ n, 2 ≤ n ∧ n ≤ 5 ∧ x = nI n ∧ (rFl X z 2 r ∧ (∀ c, c < 20 → z.2.1 96 c ≠ 0) ∨ ∃ c, lfB (z.2.1 96) c ∧ (gI X r.2 ∧ r.2.1 1 = 0 ∧ r.2.1 11 = 0 ∧ fr (fun g => g = 1 ∨ g = 11 ∨ 94 ≤ g ∧ g ≤ 96) z r.2 ∧ (t ≤ 16 ∧ r.1 = nI c ∧ (∃ w, (∀ i, i < t → lwd n (z.2.1 10 i) (w i)) ∧ nwB 94 z r.2 c n t w) ∨ ∃ i, i < t ∧ i ≤ 16 ∧ (∀ j, j < i → ∃ w, lwd n (z.2.1 10 j) w) ∧ (i = 16 ∨ lbad n (z.2.1 10 i)) ∧ r.1 = -1 - nI i ∧ sbB 94 z r.2 c))))) := by
  let Q : Int32 × ow_MS → Prop := fun r => (rFl X z 1 r ∧ ¬ (∃ n, 2 ≤ n ∧ n ≤ 5 ∧ x = nI n) ∨ ∃ n, 2 ≤ n ∧ n ≤ 5 ∧ x = nI n ∧ (rFl X z 2 r ∧ (∀ c, c < 20 → z.2.1 96 c ≠ 0) ∨ ∃ c, lfB (z.2.1 96) c ∧ (gI X r.2 ∧ r.2.1 1 = 0 ∧ r.2.1 11 = 0 ∧ fr (fun g => g = 1 ∨ g = 11 ∨ 94 ≤ g ∧ g ≤ 96) z r.2 ∧ (t ≤ 16 ∧ r.1 = nI c ∧ (∃ w, (∀ i, i < t → lwd n (z.2.1 10 i) (w i)) ∧ nwB 94 z r.2 c n t w) ∨ ∃ i, i < t ∧ i ≤ 16 ∧ (∀ j, j < i → ∃ w, lwd n (z.2.1 10 j) w) ∧ (i = 16 ∨ lbad n (z.2.1 10 i)) ∧ r.1 = -1 - nI i ∧ sbB 94 z r.2 c))))
  have h1 := gI_1 (c := 0) h
  have c1 : ¬ (∃ n, 2 ≤ n ∧ n ≤ 5 ∧ x = nI n) → Tt (fun K k => q_X13_braid K k 1 x 0 0 0 0 0 0 0 0 (usF z 1 0)) Q := by
    intro hno
    refine u_X13_braid_1 ?_; unfold qm_X13_braid_1
    exact w_mono (w_failX (k := 1) h1 fr_1) (fun r hr => Or.inl ⟨hr, hno⟩)
  have no2 : x < 2 → ¬ (∃ n, 2 ≤ n ∧ n ≤ 5 ∧ x = nI n) := fun h9 ⟨n, n2, n5, e⟩ => by
    rw [e] at h9
    have := (nI_ltI (a := n) (b := 2) (by omega) (by omega)).mp h9
    omega
  have no5 : ¬ x ≤ 5 → ¬ (∃ n, 2 ≤ n ∧ n ≤ 5 ∧ x = nI n) := fun h9 ⟨n, n2, n5, e⟩ => by
    rw [e] at h9
    exact h9 ((nI_leI (a := n) (b := 5) (by omega) (by omega)).mpr n5)
  refine e_X13_braid ?_
  refine u_X13_braid_0 ?_; unfold qm_X13_braid_0
  refine w_wrF (w_if (fun h9 => c1 (no2 h9)) (fun h2 => w_if (fun h5 => ?_) (fun h9 => c1 (no5 h9))))
  obtain ⟨n, hn, rfl⟩ : ∃ n, n ≤ 5 ∧ x = nI n := by
    have h0 : ¬ x < 0 := fun h9 => h2 (Int32.lt_trans h9 (by decide))
    exact nI_of2 (M := 5) (n := 5) (by decide) h0 h5
  have hn2 : 2 ≤ n := by
    rcases Nat.lt_or_ge n 2 with h9 | h9
    · exact absurd (nI_lt h9 (by omega)) h2
    · exact h9
  refine w_freeBX h1.2.2.2.2.2.1 (fun h0 => w_ifT rfl (w_mono (w_failX (k := 2) h1 fr_1) (fun r hr => Or.inr ⟨n, hn2, hn, rfl, Or.inl ⟨hr, h0⟩⟩))) (fun c hlf => w_ifF (rn_neg1 (by have := hlf.1; omega)) ?_)
  have hc := hlf.1
  have hc0 := hlf.2.1
  have fin : ∀ {r}, (gI X r.2 ∧ r.2.1 1 = 0 ∧ r.2.1 11 = 0 ∧ fr (fun g => g = 1 ∨ g = 11 ∨ 94 ≤ g ∧ g ≤ 96) z r.2 ∧ (t ≤ 16 ∧ r.1 = nI c ∧ (∃ w, (∀ i, i < t → lwd n (z.2.1 10 i) (w i)) ∧ nwB 94 z r.2 c n t w) ∨ ∃ i, i < t ∧ i ≤ 16 ∧ (∀ j, j < i → ∃ w, lwd n (z.2.1 10 j) w) ∧ (i = 16 ∨ lbad n (z.2.1 10 i)) ∧ r.1 = -1 - nI i ∧ sbB 94 z r.2 c)) → Q r := fun hr => Or.inr ⟨n, hn2, hn, rfl, Or.inr ⟨c, hlf, hr⟩⟩
  have en1 : nI n - 1 = nI (n - 1) := pk_sub (b := 1) (by omega)
  let W : Nat → ow_MS → Prop := fun i y => fr (fun g => g = 94) (usF z 1 0) y ∧ (∀ d, d ≠ c → ∀ j, j < 16 → y.2.1 94 (16 * d + j) = (usF z 1 0).2.1 94 (16 * d + j)) ∧ ∀ j, j < i → ltr n (y.2.1 94 (16 * c + j)) ∧ lwd n (z.2.1 10 j) (y.2.1 94 (16 * c + j))
  have wI : ∀ {i : Nat} {y : ow_MS}, W i y → gI X y := fun hW => gI_br hW.1 (fun g hg => Or.inl (by omega)) (gBrs_wr h1.2.2.2.2.2.1 hc0 (hW.1 96 (by omega)).2.1 (hW.1 95 (by omega)).2.1 hW.2.1) h1
  have y11 : ∀ {i : Nat} {y : ow_MS}, W i y → y.1 11 = nI t := fun hW => by rw [(hW.1 11 (by omega)).1]; exact (show (usF z 1 0).1 11 = nI t from (usF_n9 (by decide)).trans h11)
  -- the end
  have fall : ∀ {i : Nat} {y y1 : ow_MS}, W i y → fr (fun g => g = 11 ∨ g = 95 ∨ g = 96) y y1 → fr (fun g => g = 1 ∨ g = 11 ∨ 94 ≤ g ∧ g ≤ 96) z y1 ∧ y1.1 1 = 0 := fun hW hf => ⟨fr_tr (fr_F (Or.inl rfl)) (fr_tr (fr_mono (fun g hg => by omega) hW.1) (fr_mono (fun g hg => by omega) hf)), by
    rw [(hf 1 (by omega)).1, (hW.1 1 (by omega)).1]
    exact po_usF_at⟩
  have l10 : ∀ (x4 : Int32) (i : Nat) (y : ow_MS), W i y → t ≤ i → i ≤ 16 → Tt (fun K k => q_X13_braid K k 10 (nI n) (nI c) (-1) x4 0 0 0 0 0 y) Q := by
    intro x4 i y hW t1 t2
    have hI := gI_t (t := 0) (x := 0) rfl (by omega) (wI hW)
    refine u_X13_braid_10 ?_; unfold qm_X13_braid_10
    refine w_rdF (y11 hW) (w_wrF (w_ifT rfl ?_))
    refine w_wrI ml95 rfl (by omega) (w_wrI ml96 rfl (by omega) (w_some ?_))
    have f3 : fr (fun g => g = 95 ∨ g = 96) (usF y 11 0) (usI (usI (usF y 11 0) 95 c (nI t)) 96 c (nI n)) := fr_I2 (fr_I (Or.inl rfl)) (Or.inr rfl)
    have f4 : fr (fun g => g = 11 ∨ g = 95 ∨ g = 96) y (usI (usI (usF y 11 0) 95 c (nI t)) 96 c (nI n)) := fr_tr (fr_F (Or.inl rfl)) (fr_mono (fun g hg => Or.inr hg) f3)
    have e4 : (usI (usI (usF y 11 0) 95 c (nI t)) 96 c (nI n)).2.1 94 = y.2.1 94 := by
      rw [po_usI_ot (by decide), po_usI_ot (by decide)]
      rfl
    have e11 : (usI (usI (usF y 11 0) 95 c (nI t)) 96 c (nI n)).1 11 = 0 := (show (usF y 11 0).1 11 = 0 from po_usF_at)
    have e5 := (hW.1 95 (by omega)).2.1
    have e6 := (hW.1 96 (by omega)).2.1
    refine fin ⟨gI_br f3 (fun g hg => Or.inl (by omega)) (gBrs_new hI.2.2.2.2.2.1 (c := c) (n := n) (l := t) ⟨hn2, hn, by omega, po_usI_at, rd_ot (by decide) po_usI_at, fun j hj => ?_⟩ (fun d hd => po_usI_ne hd) (fun d hd => ?_) (fun d hd j hj => ?_)) hI, (fall hW f4).2, e11, (fall hW f4).1, Or.inl ⟨by omega, rfl, fun j => y.2.1 94 (16 * c + j), fun j hj => (hW.2.2 j (by omega)).2, po_usI_at, rd_ot (by decide) po_usI_at, fun j hj => congrFun e4 _, fun d hd => ⟨?_, ?_, fun j hj => ?_⟩⟩⟩
    · rw [e4]
      exact (hW.2.2 j (by omega)).1
    · rw [po_usI_ot (by decide), po_usI_ne hd]
    · rw [po_usI_ot (by decide), po_usI_ot (by decide)]
    · show (usI (usI (usF y 11 0) 95 c (nI t)) 96 c (nI n)).2.1 96 d = _
      rw [po_usI_ne hd, po_usI_ot (by decide)]
      exact congrFun e6 d
    · show (usI (usI (usF y 11 0) 95 c (nI t)) 96 c (nI n)).2.1 95 d = _
      rw [po_usI_ot (by decide), po_usI_ne hd]
      exact congrFun e5 d
    · show (usI (usI (usF y 11 0) 95 c (nI t)) 96 c (nI n)).2.1 94 (16 * d + j) = _
      rw [e4]
      exact hW.2.1 d hd j hj
  have l10b : ∀ (x4 : Int32) (a : Nat) (y : ow_MS), W a y → a < t → a ≤ 16 → (a = 16 ∨ lbad n (z.2.1 10 a)) → Tt (fun K k => q_X13_braid K k 10 (nI n) (nI c) (nI a) x4 0 0 0 0 0 y) Q := by
    intro x4 a y hW t1 t2 hbad
    have hI := gI_t (t := 0) (x := 0) rfl (by omega) (wI hW)
    have f4 : fr (fun g => g = 11 ∨ g = 95 ∨ g = 96) y (usF y 11 0) := fr_F (Or.inl rfl)
    refine u_X13_braid_10 ?_; unfold qm_X13_braid_10
    refine w_rdF (y11 hW) (w_wrF (w_ifF (rn_neg1 (by omega)) (w_some (fin ⟨hI, (fall hW f4).2, po_usF_at, (fall hW f4).1, Or.inr ⟨a, t1, t2, fun j hj => ⟨_, (hW.2.2 j hj).2⟩, hbad, rfl, ?_⟩⟩))))
    exact ⟨(hW.1 96 (by omega)).2.1, (hW.1 95 (by omega)).2.1, fun d hd j hj => hW.2.1 d hd j hj⟩
  have bad : ∀ (i a : Nat) (y : ow_MS), W a y → a < t → a ≤ 16 → (a = 16 ∨ lbad n (z.2.1 10 a)) → Tt (fun K k9 => q_X13_braid K k9 2 (nI n) (nI c) (nI a) (nI i) 0 0 0 0 0 y) Q := by
    intro i a y hW t1 t2 hb
    have e10 := l10b (nI i) a y hW t1 t2 hb
    refine u_X13_braid_2 ?_; unfold qm_X13_braid_2
    exact w_rdF (y11 hW) (w_if (fun _ => e10) (fun _ => w_ifF (rn_neg1 (by omega)) e10))
  have main : ∀ (k i : Nat) (y : ow_MS), i + k = 16 → W i y → Tt (fun K k9 => q_X13_braid K k9 2 (nI n) (nI c) (-1) (nI i) 0 0 0 0 0 y) Q := by
    intro k
    induction k using Nat.strongRecOn with
    | ind k ih =>
      intro i y hi hW
      refine u_X13_braid_2 ?_; unfold qm_X13_braid_2
      refine w_rdF (y11 hW) (w_le (by omega) (by omega) (fun hti => l10 (nI i) i y hW hti (by omega)) (fun hti => w_ifT rfl (w_rdI ml10 rfl (by omega) rfl (w_rdI ml10 rfl (by omega) rfl ?_))))
      obtain ⟨v, hv⟩ : ∃ v, v = y.2.1 10 i := ⟨_, rfl⟩
      rw [← hv]
      have hvz : v = z.2.1 10 i := by rw [hv, (hW.1 10 (by omega)).2.1]; rfl
      have c7 : ∀ x5 x6 x7 : Int32, (i = 16 ∨ lbad n (z.2.1 10 i)) → Tt (fun K k9 => q_X13_braid K k9 7 (nI n) (nI c) (-1) (nI i) x5 x6 x7 0 0 y) Q := by
        intro x5 x6 x7 hb
        refine u_X13_braid_7 ?_; unfold qm_X13_braid_7
        refine u_X13_braid_9 ?_; unfold qm_X13_braid_9
        rw [nI_1]
        exact bad (i + 1) i y hW (by omega) (by omega) hb
      have c8 : ∀ (x5 x6 x7 t0 : Int32), i < 16 → ltr n t0 → lwd n (z.2.1 10 i) t0 → Tt (fun K k9 => q_X13_braid K k9 8 (nI n) (nI c) (-1) (nI i) x5 x6 x7 t0 (nI (16 * c + i)) y) Q := by
        intro x5 x6 x7 t0 hi16 hl hlw
        refine u_X13_braid_8 ?_; unfold qm_X13_braid_8
        refine w_wrI ml94 rfl (by omega) ?_
        refine u_X13_braid_9 ?_; unfold qm_X13_braid_9
        rw [nI_1]
        refine ih (k - 1) (by omega) (i + 1) _ (by omega) ⟨fr_I2 hW.1 rfl, fun d hd j hj => rd_ne (by omega) (hW.2.1 d hd j hj), fun j hj => ?_⟩
        by_cases hji : j = i
        · rw [hji, po_usI_at]
          exact ⟨hl, hlw⟩
        · rw [po_usI_ne (by omega)]
          exact hW.2.2 j (by omega)
      have c5 : ∀ x5 x6 : Int32, lbad n (z.2.1 10 i) → Tt (fun K k9 => q_X13_braid K k9 5 (nI n) (nI c) (-1) (nI i) x5 x6 0 0 0 y) Q := by
        intro x5 x6 hb
        refine u_X13_braid_5 ?_; unfold qm_X13_braid_5
        refine u_X13_braid_6 ?_; unfold qm_X13_braid_6
        exact w_if (fun _ => c7 _ _ _ (Or.inr hb)) (fun _ => w_ifT rfl (c7 _ _ _ (Or.inr hb)))
      have c4 : ∀ x5 x6 : Int32, x5 = v - 97 → x6 = v - 65 → ((∃ a, a < n - 1 ∧ x5 = nI a) ∨ x5 < 0 ∧ ∃ a, a < n - 1 ∧ x6 = nI a) → Tt (fun K k9 => q_X13_braid K k9 4 (nI n) (nI c) (-1) (nI i) x5 x6 0 0 0 y) Q := by
        intro x5 x6 hx5 hx6 hok
        refine u_X13_braid_4 ?_; unfold qm_X13_braid_4
        refine u_X13_braid_6 ?_; unfold qm_X13_braid_6
        rw [show (16 : Int32) * nI c = nI (16 * c) from pk_mul 16 c, nI_add]
        refine w_eqN (b := 16) (by omega) (by omega) (fun e16 => c7 _ _ _ (Or.inl e16)) (fun h16 => w_ifF (by decide) ?_)
        rcases hok with ⟨a, ha, e⟩ | ⟨h0, a, ha, e⟩
        · rw [e, nI_1]
          exact w_ifF (nI_pos (by omega)) (c8 _ _ _ _ (by omega) ⟨a, by omega, Or.inl rfl⟩ (Or.inl ⟨a, ha, by rw [← hvz, ← hx5, e], rfl⟩))
        · rw [e]
          exact w_ifT h0 (c8 _ _ _ _ (by omega) ⟨a, by omega, Or.inr rfl⟩ (Or.inr ⟨fun ⟨a', q1, q2⟩ => by rw [← hvz, ← hx5] at q2; rw [q2] at h0; exact nI_pos (by omega) h0, a, ha, by rw [← hvz, ← hx6, e], rfl⟩))
      rw [en1]
      have c3 : ¬ in9 (v - 97) (n - 1) → Tt (fun K k9 => q_X13_braid K k9 3 (nI n) (nI c) (-1) (nI i) (v - 97) (v - 65) 0 0 0 y) Q := by
        intro hna
        refine u_X13_braid_3 ?_; unfold qm_X13_braid_3
        rw [en1]
        refine w_if (fun h9 => c5 _ _ (by rw [← hvz]; exact ⟨hna, fun h8 => ((in9_iff (by omega)).mp h8).1 h9⟩)) (fun h0 => w_if (fun h9 => c5 _ _ (by rw [← hvz]; exact ⟨hna, fun h8 => absurd ((in9_iff (by omega)).mp h8).2 (Int32.not_lt.mpr h9)⟩)) (fun h1 => c4 _ _ rfl rfl (Or.inr ?_)))
        obtain ⟨a, ha, e⟩ : ∃ a, a < n - 1 ∧ v - 65 = nI a := by
          rcases pk_ix (v - 65) (n := n - 1) (by omega) with h9 | h9 | h9
          · exact absurd h9 h0
          · exact absurd h9 h1
          · exact h9
        refine ⟨?_, a, ha, e⟩
        have ev : v = nI (a + 65) := by
          have : v = v - 65 + 65 := (Int32.sub_add_cancel v 65).symm
          rw [this, e]
          exact nI_add a 65
        rw [ev]
        exact pk_sneg (b := 97) (by omega) (by omega)
      refine w_if (fun h9 => c3 (fun h8 => ((in9_iff (by omega)).mp h8).1 h9)) (fun h0 => w_if (fun h1 => c4 _ _ rfl rfl (Or.inl ?_)) (fun h9 => c3 (fun h8 => h9 ((in9_iff (by omega)).mp h8).2)))
      exact (in9_iff (by omega)).mpr ⟨h0, h1⟩
  exact main 16 0 (usF z 1 0) (by omega) ⟨fr_rf, fun d hd j hj => rfl, fun j hj => by omega⟩
end XBD
end
section
/-! 99zzzzzzzzzza.xbe -/
/-! exact calls: braid, of the class -/
section XBE
variable {vl : Nat → Nat} {y : ow_MS} {x x' : Int32}
theorem xc_readBraid {t n d : Nat} (ht : y.1 11001 = nI t) (h400 : t ≤ 400) (hn : 2 ≤ n) (hn5 : n ≤ 5) (hd : d < 20) : Te (fun K => ce_X9_readBraid vl K 11000 (nI n) 13 (nI (16 * d)) y) (fun r => fr (fun g => g = 13) y r.2 ∧ (∀ k, k < 16 * d ∨ 16 * d + 16 ≤ k → r.2.2.1 13 k = y.2.1 13 k) ∧ (r.1 = -1 ∧ t ≤ 16 ∧ wdB r.2 d n t ∧ (∀ j, j < t → lwd n (y.2.1 11002 j) (r.2.2.1 13 (16 * d + j))) ∨ ∃ b, b < t ∧ b ≤ 16 ∧ r.1 = nI b ∧ (∀ j, j < b → ∃ w, lwd n (y.2.1 11002 j) w) ∧ (b = 16 ∨ lbad n (y.2.1 11002 b)))) := by
  let Q : Int32 × ow_MS → Prop := fun r => fr (fun g => g = 13) y r.2 ∧ (∀ k, k < 16 * d ∨ 16 * d + 16 ≤ k → r.2.2.1 13 k = y.2.1 13 k) ∧ (r.1 = -1 ∧ t ≤ 16 ∧ wdB r.2 d n t ∧ (∀ j, j < t → lwd n (y.2.1 11002 j) (r.2.2.1 13 (16 * d + j))) ∨ ∃ b, b < t ∧ b ≤ 16 ∧ r.1 = nI b ∧ (∀ j, j < b → ∃ w, lwd n (y.2.1 11002 j) w) ∧ (b = 16 ∨ lbad n (y.2.1 11002 b)))
  have c1 : ∀ (k i : Nat) (z : ow_MS), i + k = t → i ≤ 16 → fr (fun g => g = 13) y z → (∀ k, k < 16 * d ∨ 16 * d + 16 ≤ k → z.2.1 13 k = y.2.1 13 k) → wdB z d n i → (∀ j, j < i → lwd n (y.2.1 11002 j) (z.2.1 13 (16 * d + j))) → Tt (fun K t => c_X9_readBraid vl K t 1 (nI n) (nI (16 * d)) (nI i) 0 0 11000 13 z) Q := by
    intro k
    induction k with
    | zero =>
      intro i z hi h16 hf hk hw hl
      have e : i = t := by omega
      subst e
      refine u_X9_readBraid_1 ?_; unfold cm_X9_readBraid_1
      exact w_rdF ((hf 11001 (by omega)).1.trans ht) (w_leT (by omega) (by omega) (w_some ⟨hf, hk, Or.inl ⟨rfl, h16, hw, hl⟩⟩))
    | succ k ih =>
      intro i z hi h16 hf hk hw hl
      have c3 : ∀ (a : Int) (x5 x6 : Int32), 1 ≤ a.natAbs → a.natAbs < n → i < 16 → lwd n (y.2.1 11002 i) (iI a) → Tt (fun K t => c_X9_readBraid vl K t 3 (nI n) (nI (16 * d)) (nI i) x5 x6 11000 13 (usI z 13 (16 * d + i) (iI a))) Q := by
        intro a x5 x6 a1 a2 hi16 hlw
        refine u_X9_readBraid_3 ?_; unfold cm_X9_readBraid_3
        rw [nI_1]
        refine ih (i + 1) _ (by omega) (by omega) (fr_I2 hf rfl) (fun j hj => rd_ne (by omega) (hk j hj)) (fun j hj => ?_) (fun j hj => ?_)
        · by_cases e : j = i
          · rw [e]
            exact ⟨a, po_usI_at, a1, a2⟩
          · obtain ⟨a', q1, q2, q3⟩ := hw j (by omega)
            exact ⟨a', rd_ne (by omega) q1, q2, q3⟩
        · by_cases e : j = i
          · rw [e, po_usI_at]
            exact hlw
          · rw [po_usI_ne (by omega)]
            exact hl j (by omega)
      have etp : z.2.1 11002 i = y.2.1 11002 i := congrFun (hf 11002 (by omega)).2.1 i
      have fault : (i = 16 ∨ lbad n (y.2.1 11002 i)) → Tt (fun _ _ => some (nI i, z)) Q := fun hb => w_some ⟨hf, hk, Or.inr ⟨i, by omega, h16, rfl, fun j hj => ⟨_, hl j hj⟩, hb⟩⟩
      have em1 : nI n - 1 = nI (n - 1) := pk_sub (b := 1) (by omega)
      have c2 : ∀ (x5 x6 : Int32), x6 = y.2.1 11002 i - 65 → ¬ in9 (y.2.1 11002 i - 97) (n - 1) → i < 16 → Tt (fun K t => c_X9_readBraid vl K t 2 (nI n) (nI (16 * d)) (nI i) x5 x6 11000 13 z) Q := by
        intro x5 x6 hx6 hna hi16
        refine u_X9_readBraid_2 ?_; unfold cm_X9_readBraid_2
        rw [em1, nI_add]
        refine w_if (fun h9 => fault (Or.inr ⟨hna, fun h8 => by rw [← hx6] at h8; exact ((in9_iff (by omega)).mp h8).1 h9⟩)) (fun h0 => w_if (fun h9 => fault (Or.inr ⟨hna, fun h8 => by rw [← hx6] at h8; exact absurd ((in9_iff (by omega)).mp h8).2 (Int32.not_lt.mpr h9)⟩)) (fun h1 => ?_))
        obtain ⟨s, s1, rfl⟩ := ltr_of hn hn5 h0 h1
        have ea : -(nI s + 1) = iI (-((s : Int) + 1)) := by
          rw [nI_1, nI_iI, (lt_a (a := ((s + 1 : Nat) : Int)) (by omega)).2.2]
          congr 1
        rw [ea]
        refine w_ctB ch_13 rfl (show 16 * d + i < 320 by omega) ?_
        rw [(lt_a (a := -((s : Int) + 1)) (by omega)).1]
        refine c3 _ _ _ (by omega) (by omega) hi16 (Or.inr ⟨hna, s, s1, hx6.symm, ?_⟩)
        rw [← ea, ← Int32.zero_sub]
        exact i32_a (nI s)
      refine u_X9_readBraid_1 ?_; unfold cm_X9_readBraid_1
      rw [em1, nI_add]
      refine w_rdF ((hf 11001 (by omega)).1.trans ht) (w_leF (by omega) (by omega) (w_crI ch_11002 rfl (show i < 400 by omega) rfl (w_crI ch_11002 rfl (show i < 400 by omega) rfl (w_lt (b := 16) (by omega) (by omega) (fun hi16 => w_if (fun h9 => c2 _ _ (by rw [etp]) (fun h8 => by rw [← etp] at h8; exact ((in9_iff (by omega)).mp h8).1 h9) hi16) (fun h0 => w_if (fun h9 => c2 _ _ (by rw [etp]) (fun h8 => by rw [← etp] at h8; exact absurd ((in9_iff (by omega)).mp h8).2 (Int32.not_lt.mpr h9)) hi16) (fun h1 => ?_))) (fun h9 => fault (Or.inl (by omega)))))))
      obtain ⟨s, s1, es⟩ := ltr_of hn hn5 h0 h1
      rw [es]
      have ea : nI s + 1 = iI ((s : Int) + 1) := by
        rw [nI_1, nI_iI]
        congr 1
      rw [ea]
      refine w_ctB ch_13 rfl (show 16 * d + i < 320 by omega) ?_
      rw [(lt_a (a := (s : Int) + 1) (by omega)).1]
      refine c3 _ _ _ (by omega) (by omega) hi16 (Or.inl ⟨s, s1, by rw [← etp]; exact es, ?_⟩)
      rw [← ea, nI_1]
  refine e_X9_readBraid ?_
  refine u_X9_readBraid_0 ?_; unfold cm_X9_readBraid_0
  exact c1 t 0 y (by omega) (by omega) fr_rf (fun _ _ => rfl) (fun i hi => absurd hi (Nat.not_lt_zero _)) (fun i hi => absurd hi (Nat.not_lt_zero _))
theorem xc_braid {t : Nat} (hB : brC y) (ht4 : t ≤ 400) (ht : y.1 11001 = nI t) : Te (fun K => ce_X11_braid vl K 0 x y) (fun r => (r.1 = 2 ∧ r.2.2 = y ∧ ¬ (∃ n, 2 ≤ n ∧ n ≤ 5 ∧ x = nI n) ∨ ∃ n, 2 ≤ n ∧ n ≤ 5 ∧ x = nI n ∧ (r.1 = 3 ∧ r.2.2 = y ∧ (∀ c, c < 20 → y.2.1 15 c ≠ 0) ∨ r.1 = 0 ∧ ∃ c, lfB (y.2.1 15) c ∧ (brC r.2.2 ∧ r.2.2.1 11001 = 0 ∧ fr bdP y r.2.2 ∧ (t ≤ 16 ∧ r.2.1 = nI c ∧ (∃ w, (∀ i, i < t → lwd n (y.2.1 11002 i) (w i)) ∧ nwB 13 y r.2.2 c n t w) ∨ ∃ i, i < t ∧ i ≤ 16 ∧ (∀ j, j < i → ∃ w, lwd n (y.2.1 11002 j) w) ∧ (i = 16 ∨ lbad n (y.2.1 11002 i)) ∧ r.2.1 = -1 - nI i ∧ sbB 13 y r.2.2 c))))) := by
  refine e_X11_braid ?_; unfold cm_X11_braid_0
  have no2 : x < 2 → ¬ (∃ n, 2 ≤ n ∧ n ≤ 5 ∧ x = nI n) := fun h9 ⟨n, n2, n5, e⟩ => by
    rw [e] at h9
    have := (nI_ltI (a := n) (b := 2) (by omega) (by omega)).mp h9
    omega
  have no5 : ¬ x ≤ 5 → ¬ (∃ n, 2 ≤ n ∧ n ≤ 5 ∧ x = nI n) := fun h9 ⟨n, n2, n5, e⟩ => by
    rw [e] at h9
    exact h9 ((nI_leI (a := n) (b := 5) (by omega) (by omega)).mpr n5)
  refine w_if (fun h9 => w_some (Or.inl ⟨rfl, rfl, no2 h9⟩)) (fun h2 => w_if (fun h5 => ?_) (fun h9 => w_some (Or.inl ⟨rfl, rfl, no5 h9⟩)))
  have h0 : ¬ x < 0 := fun h9 => h2 (Int32.lt_trans h9 (by decide))
  obtain ⟨n, n31, rfl⟩ := nI_of h0
  have hn5 : n ≤ 5 := (nI_leI n31 (by omega : 5 < 2 ^ 31)).mp h5
  have hn2 : 2 ≤ n := by
    apply Nat.le_of_not_lt
    exact fun h9 => h2 (nI_lt (b := 2) h9 (by omega))
  refine w_tc1 tc_freeBraid ?_ ?_
  · rintro v y1 ⟨h3, rfl⟩
    rcases h3 with ⟨d, hd, -, rfl, e0, eall⟩ | h3
    · refine w_rdF ht ?_
      rw [show nI d * 16 = nI (16 * d) from by rw [show (16 : Int32) = nI 16 from rfl, pk_mul, Nat.mul_comm]]
      refine w_cs1 (xc_readBraid ht ht4 hn2 hn5 hd) ?_
      rintro w z ⟨f1, k1, e1⟩
      dsimp only at f1 k1 e1
      have f2 : fr bdP y1 (usF z (0 + 11000 + 1) 0) := fr_F2 (fr_mono (fun g hg => by rw [hg]; unfold bdP; omega) f1) (by unfold bdP; omega)
      have t2 : (usF z (0 + 11000 + 1) 0).1 11001 = 0 := po_usF_at
      have z4 : (usF z (0 + 11000 + 1) 0).2.1 14 = y1.2.1 14 := (f1 14 (by omega)).2.1
      have z5 : (usF z (0 + 11000 + 1) 0).2.1 15 = y1.2.1 15 := (f1 15 (by omega)).2.1
      refine w_wrF (w_if (fun ew => ?_) (fun new => ?_))
      · rcases e1 with ⟨-, t16, hw, hl⟩ | ⟨b, b0, b1, b2, -⟩
        · refine w_ctI ch_14 rfl hd (w_ctI ch_15 rfl hd (w_some (Or.inr ⟨n, hn2, hn5, rfl, Or.inr ⟨rfl, d, ⟨hd, e0, eall⟩, ?_, t2, fr_I2 (fr_I2 f2 (by unfold bdP; omega)) (by unfold bdP; omega), Or.inl ⟨t16, rfl, _, hl, po_usI_at, rd_ot (by omega) po_usI_at, fun j hj => rd_ot (by omega) (rd_ot (by omega) rfl), fun e he => ⟨rd_ne he (rd_ot (by omega) (congrFun z5 e)), rd_ot (by omega) (rd_ne he (congrFun z4 e)), fun j hj => rd_ot (by omega) (rd_ot (by omega) (k1 _ (by omega)))⟩⟩⟩⟩)))
          refine brC_put (n := n) (l := t) hd hB (fun k hk => rd_ot (by omega) (rd_ot (by omega) (k1 k hk))) (fun k hk => rd_ot (by omega) (rd_ne hk (congrFun z4 k))) (fun k hk => rd_ne hk (rd_ot (by omega) (congrFun z5 k))) ⟨hn5, by omega⟩ po_usI_at (fun _ => ⟨t16, rd_ot (by omega) po_usI_at, fun i hi => ?_⟩)
          obtain ⟨a, a1, a2, a3⟩ := hw i hi
          exact ⟨a, rd_ot (by omega) (rd_ot (by omega) a1), a2, a3⟩
        · rw [b2] at ew
          exact absurd ew (nI_nm1 (by omega))
      · rcases e1 with ⟨q, -⟩ | ⟨b, b0, b1, b2, b3, b4⟩
        · exact absurd q new
        · refine w_some (Or.inr ⟨n, hn2, hn5, rfl, Or.inr ⟨rfl, d, ⟨hd, e0, eall⟩, ?_, t2, f2, Or.inr ⟨b, b0, b1, b3, b4, by rw [b2], z5, z4, fun e he j hj => k1 _ (by omega)⟩⟩⟩)
          exact brC_put (n := 0) (l := 0) hd hB k1 (fun k _ => congrFun z4 k) (fun k _ => congrFun z5 k) ⟨by omega, by omega⟩ (by rw [z5]; exact e0) (fun h9 => absurd h9 (by omega))
    · exact absurd (show (0 : Nat) = 3 from h3.1) (by decide)
  · rintro a v y1 ha ⟨h3, rfl⟩
    rcases h3 with ⟨d, -, q, -⟩ | h3
    · exact absurd q ha
    · exact w_some (Or.inr ⟨n, hn2, hn5, rfl, Or.inl ⟨h3.1, rfl, h3.2⟩⟩)
end XBE
end
section
/-! 99zzzzzzzzzzb.xbo4 -/
/-! both sides: braid, feed, end -/
section XB4
variable {X : (Nat → Nat → Int32) → Prop} {z y : ow_MS} {vl : Nat → Nat} {x : Int32}
theorem lwd_uni {n : Nat} {v w w' : Int32} (hn : n ≤ 5) (h : lwd n v w) (h' : lwd n v w') : w = w' := by
  rcases h with ⟨a, a1, a2, a3⟩ | ⟨a0, a, a1, a2, a3⟩ <;> rcases h' with ⟨b, b1, b2, b3⟩ | ⟨b0, b, b1, b2, b3⟩
  · have e : a = b := nI_inj9 (by omega) (by omega) (a2.symm.trans b2)
    rw [a3, b3, e]
  · exact absurd ⟨a, a1, a2⟩ b0
  · exact absurd ⟨b, b1, b2⟩ a0
  · have e : a = b := nI_inj9 (by omega) (by omega) (a2.symm.trans b2)
    rw [a3, b3, e]
theorem lwd_bad {n : Nat} {v w : Int32} (h : lwd n v w) (hb : lbad n v) : False := by
  rcases h with ⟨a, a1, a2, -⟩ | ⟨-, a, a1, a2, -⟩
  · exact hb.1 ⟨a, a1, a2⟩
  · exact hb.2 ⟨a, a1, a2⟩
theorem relB_sb {z1 y1 : ow_MS} {c : Nat} (h : relB z y) (h0 : z.2.1 96 c = 0) (hz : sbB 94 z z1 c) (hy : sbB 13 y y1 c) : relB z1 y1 := fun b hb => by
  obtain ⟨h1, h2⟩ := h b hb
  have e6 : z1.2.1 96 = z.2.1 96 := hz.1
  have e5 : z1.2.1 95 = z.2.1 95 := hz.2.1
  have f6 : y1.2.1 15 = y.2.1 15 := hy.1
  have f5 : y1.2.1 14 = y.2.1 14 := hy.2.1
  rw [e6, e5, f6, f5]
  refine ⟨h1, fun h9 => ?_⟩
  obtain ⟨k1, k2⟩ := h2 h9
  refine ⟨k1, fun l hl e i hi => ?_⟩
  have hbc : b ≠ c := fun e9 => h9 (by rw [e9]; exact h0)
  rw [hz.2.2 b hbc i (by omega), hy.2.2 b hbc i (by omega)]
  exact k2 l hl e i hi
theorem b_braid (hz : gI X z) (hB : brC y) (h : relB z y) (hT : relT z y) : Te (fun K => qe_X13_braid K x z) (fun rr => Te (fun K => ce_X11_braid vl K 0 x y) (fun rc => relB rr.2 rc.2.2 ∧ relT rr.2 rc.2.2 ∧ gI X rr.2 ∧ brC rc.2.2 ∧ fr (fun g => rPs g ∨ g = 11 ∨ 94 ≤ g ∧ g ≤ 96) z rr.2 ∧ fr bdP y rc.2.2 ∧ ansI [(1, 2), (2, 3)] rr rc)) := by
  obtain ⟨t, t1, t2, t3, t4⟩ := id hT
  refine te_two (xq_braid hz t1 t2) (xc_braid hB t1 t3) (fun rr rc hr hc => ?_)
  have fail : ∀ {j k : Nat}, rFl X z j rr → (j, k) ∈ [(1, 2), (2, 3)] → rc.1 = k → rc.2.2 = y → relB rr.2 rc.2.2 ∧ relT rr.2 rc.2.2 ∧ gI X rr.2 ∧ brC rc.2.2 ∧ fr (fun g => rPs g ∨ g = 11 ∨ 94 ≤ g ∧ g ≤ 96) z rr.2 ∧ fr bdP y rc.2.2 ∧ ansI [(1, 2), (2, 3)] rr rc := fun {j k} hf hm e1 e2 => by
    have e11 := (hf.2.2 11 (by unfold rPs rSc; omega)).1
    have e10 := (hf.2.2 10 (by unfold rPs rSc; omega)).2.1
    exact ⟨by rw [e2]; exact relB_fail h hf, ⟨t, t1, by rw [e11]; exact t2, by rw [e2]; exact t3, fun k hk => by rw [e10, e2]; exact t4 k hk⟩, hf.1, by rw [e2]; exact hB, fr_mono (fun g hg => Or.inl hg) hf.2.2, by rw [e2]; exact fr_rf, Or.inr ⟨j, k, hm, hf.2.1, e1⟩⟩
  rcases hr with ⟨r1, r2⟩ | ⟨n, n2, n5, n3, hr⟩
  · rcases hc with ⟨c1, c2, -⟩ | ⟨n, n2, n5, n3, -⟩
    · exact fail r1 (by simp) c1 c2
    · exact absurd ⟨n, n2, n5, n3⟩ r2
  · rcases hc with ⟨-, -, c3⟩ | ⟨n', n2', n5', n3', hc⟩
    · exact absurd ⟨n, n2, n5, n3⟩ c3
    · have en : n = n' := nI_inj9 (by omega) (by omega) (n3.symm.trans n3')
      subst en
      rcases hr with ⟨r1, r2⟩ | ⟨c, r0, r1, r2, r3, r4, hr⟩
      · rcases hc with ⟨c1, c2, -⟩ | ⟨-, c, c1, -⟩
        · exact fail r1 (by simp) c1 c2
        · exact absurd ((h c c1.1).1.trans c1.2.1) (r2 c c1.1)
      · rcases hc with ⟨-, -, c3⟩ | ⟨c0, c', c1, c2, c3, c4, hc⟩
        · exact absurd ((h c r0.1).1.symm.trans r0.2.1) (c3 c r0.1)
        · have ec := lfB_uni (fun b hb => (h b hb).1) r0 c1
          subst ec
          have hT0 : relT rr.2 rc.2.2 := ⟨0, by omega, r3, c3, fun k hk => by omega⟩
          have hfr : fr (fun g => rPs g ∨ g = 11 ∨ 94 ≤ g ∧ g ≤ 96) z rr.2 := fr_mono (fun g hg => by
            rcases hg with hg | hg
            · exact Or.inl (Or.inl hg)
            · exact Or.inr hg) r4
          rcases hr with ⟨p1, p2, w, p3, p4⟩ | ⟨i, p1, p2, p3, p4, p5, p6⟩
          · rcases hc with ⟨q1, q2, w', q3, q4⟩ | ⟨i, q1, q2, q3, q4, q5, q6⟩
            · refine ⟨relB_new h p1 p4 q4 (fun i hi => lwd_uni n5 (p3 i hi) ?_), hT0, r1, c2, hfr, c4, Or.inl ⟨r2, c0, p2.trans q2.symm⟩⟩
              rw [t4 i hi]
              exact q3 i hi
            · exfalso
              rcases q4 with q4 | q4
              · omega
              · rw [← t4 i q1] at q4
                exact lwd_bad (p3 i q1) q4
          · rcases hc with ⟨q1, q2, w', q3, q4⟩ | ⟨j, q1, q2, q3, q4, q5, q6⟩
            · exfalso
              rcases p4 with p4 | p4
              · omega
              · rw [t4 i p1] at p4
                exact lwd_bad (q3 i p1) p4
            · have eij : i = j := by
                rcases Nat.lt_trichotomy i j with q | q | q
                · exfalso
                  obtain ⟨w, hw⟩ := q3 i q
                  rcases p4 with p4 | p4
                  · omega
                  · rw [t4 i p1] at p4
                    exact lwd_bad hw p4
                · exact q
                · exfalso
                  obtain ⟨w, hw⟩ := p3 j q
                  rcases q4 with q4 | q4
                  · omega
                  · rw [← t4 j q1] at q4
                    exact lwd_bad hw q4
              subst eij
              exact ⟨relB_sb h r0.2.1 p6 q6, hT0, r1, c2, hfr, c4, Or.inl ⟨r2, c0, p5.trans q5.symm⟩⟩
theorem b_feed {a b c d e : Int32} (hz : gI X z) (hT : relT z y) : Te (fun K => qe_X13_feed K a b c d e z) (fun rr => Te (fun K => ce_X11_feed vl K 0 a b c d e y) (fun rc => relT rr.2 rc.2.2 ∧ gI X rr.2 ∧ fr (fun g => rPs g ∨ g = 10 ∨ g = 11) z rr.2 ∧ fr tpP y rc.2.2 ∧ ansI [(1, 3)] rr rc)) := by
  obtain ⟨t, t1, t2, t3, t4⟩ := id hT
  refine te_two (xq_feed hz t1 t2) (tc_feed t3 t1) (fun rr rc hr hc => ?_)
  obtain ⟨k1, k2⟩ := feed_jn t1 t2 t3 t4 hr hc
  have hg : gI X rr.2 ∧ fr (fun g => rPs g ∨ g = 10 ∨ g = 11) z rr.2 := by
    rcases hr with ⟨-, -, r3, -, -, -, -, r8⟩ | ⟨-, r1, -, r3⟩
    · exact ⟨r3, fr_mono (fun g hg => by rcases hg with hg | hg; exact Or.inl (Or.inl hg); exact Or.inr hg) r8⟩
    · exact ⟨r1, fr_mono (fun g hg => Or.inl hg) r3⟩
  refine ⟨k1, hg.1, hg.2, hc.2, ?_⟩
  rcases k2 with k2 | ⟨k3, k4⟩
  · exact Or.inl k2
  · exact Or.inr ⟨1, 3, by simp, k3, k4⟩
theorem b_end (hz : gI X z) (hT : relT z y) : Te (fun K => qe_X13_end K x z) (fun rr => Te (fun K => ce_X11_end vl K 0 x y) (fun rc => relT rr rc.2 ∧ gI X rr ∧ fr (fun g => rPs g ∨ g = 10 ∨ g = 11) z rr ∧ fr (fun q => q = 11001) y rc.2 ∧ (rr.1 1 = 0 ∧ rc.1 = 0 ∨ rr.1 1 = nI 1 ∧ rc.1 = 2))) := by
  obtain ⟨t, t1, t2, t3, t4⟩ := id hT
  refine te_two (xq_end hz t1 t2) (tc_end t3 t1) (fun rr rc hr hc => ?_)
  obtain ⟨k1, k2⟩ := end_jn t1 t2 t3 t4 hr hc
  have hg : gI X rr ∧ fr (fun g => rPs g ∨ g = 10 ∨ g = 11) z rr := by
    rcases hr with ⟨u, -, -, r3, -, -, -, r8⟩ | ⟨-, r1, -, r3⟩
    · exact ⟨r3, fr_mono (fun g hg => by rcases hg with hg | hg; exact Or.inl (Or.inl hg); exact Or.inr hg) r8⟩
    · exact ⟨r1, fr_mono (fun g hg => Or.inl hg) r3⟩
  exact ⟨k1, hg.1, hg.2, hc.2, k2⟩
end XB4
end
section
/-! 99zzzzzzzzzzc.xmv -/
/-! both sides: moved, summand (given that the lists are related) -/
/-- the rows of a list of diagrams: rows h, order h', their number at n -/
def rlR (h h' n m : Nat) (z : ow_MS) (Ms : List (rn_L × (Nat → Bool))) : Prop := Ms.length ≤ m ∧ z.1 n = nI Ms.length ∧ ∀ (k : Nat) A sg, Ms[k]? = some (A, sg) → ∃ j, j < Ms.length ∧ z.2.1 h' k = nI j ∧ A ≠ [] ∧ vRow z h (32 * j) A sg
def rlC (g p : Nat) (y : ow_MS) (Ms : List (rn_L × (Nat → Bool))) : Prop := ∃ Cs os, tbO y g p Cs os ∧ os.length = Ms.length ∧ ∀ (k : Nat) A sg, Ms[k]? = some (A, sg) → atC Cs os k = clC sg A
def okM (Ms : List (rn_L × (Nat → Bool))) : Prop := ∀ (k : Nat) A sg, Ms[k]? = some (A, sg) → A ≠ [] ∧ plnA A sg ∧ ∃ c, okL A c
section XMV
variable {X : (Nat → Nat → Int32) → Prop} {z : ow_MS} {St : plT}
theorem xr_keepRow {h o la d : Nat} {A : rn_L} {sg : Nat → Bool} (hI : gI X z) (hR : relR z St) (hlf : lstF St d) (hh : h ≠ 12) (hla : (mX.2 h).2.1 = la) (ha : la < 2 ^ 30) (ho : o + 32 ≤ la) (hM : vRow z h o A sg) (hne : A ≠ []) : Te (fun K => qe_X13_keepRow K h (nI o) z) (fun r => gI X r.2 ∧ r.1 = nI d ∧ fr (fun g => g = 12) z r.2 ∧ relR r.2 (upP St d (some (A, sg)))) := by
  let Q : Int32 × ow_MS → Prop := fun r => gI X r.2 ∧ r.1 = nI d ∧ fr (fun g => g = 12) z r.2 ∧ relR r.2 (upP St d (some (A, sg)))
  obtain ⟨r, hr, h1, h2⟩ := xr_free (z := z) hR
  have hd := hlf.1
  have e : r.1 = nI d := by
    rcases h2 with ⟨-, h3⟩ | ⟨d', h3, h4⟩
    · exact absurd hlf.2.1 (h3 d hd)
    · rw [h3, lst_uni2 h4 hlf]
  obtain ⟨hv, h5⟩ := hM
  have hl := hv.1
  have key : ∀ (j k : Nat) (z1 : ow_MS), k + j = (tk sg A).length + 1 → fr (fun g => g = 12) z z1 → (∀ i, i < k → z1.2.1 12 (32 * d + i) = z.2.1 h (o + i)) → (∀ i, i < 32 * d ∨ 32 * d + 32 ≤ i → z1.2.1 12 i = z.2.1 12 i) → Tt (fun K i => q_X13_keepRow K i 1 (nI o) (nI d) (nI k) h z1) Q := by
    intro j
    induction j with
    | zero =>
      intro k z1 hk hf hc hi
      have e0 : z1.2.1 h o = nI (tk sg A).length := by rw [(hf h hh).2.1]; exact hv.2.2.1
      have hrow : vRow z1 12 (32 * d) A sg := ⟨⟨hl, hv.2.1, ?_, fun i t hi9 => ?_⟩, h5⟩
      · refine u_X13_keepRow_1 ?_; unfold qm_X13_keepRow_1
        exact w_rdI hla rfl (by omega) e0 (w_ltT (by omega) (by omega) (w_some ⟨gI_rows hf (fun g hg => Or.inl hg) (gRows_put ⟨A, sg, hrow⟩ hi hI.2.1) hI, rfl, hf, relR_put hR hd hne hrow hi⟩))
      · have := hc 0 (by omega)
        rw [Nat.add_zero, Nat.add_zero] at this
        rw [this]
        exact hv.2.2.1
      · have := (List.getElem?_eq_some_iff.mp hi9).1
        rw [hc (i + 1) (by omega)]
        exact hv.2.2.2 i t hi9
    | succ j ih =>
      intro k z1 hk hf hc hi
      have e0 : z1.2.1 h o = nI (tk sg A).length := by rw [(hf h hh).2.1]; exact hv.2.2.1
      refine u_X13_keepRow_1 ?_; unfold qm_X13_keepRow_1
      rw [nI_add, show (32 : Int32) * nI d = nI (32 * d) from pk_mul 32 d, nI_add, nI_1]
      refine w_rdI hla rfl (by omega) e0 (w_ltF (by omega) (by omega) (w_rdI hla rfl (by omega) (by rw [(hf h hh).2.1]) (w_wrI ml12 rfl (by omega) ?_)))
      refine ih (k + 1) _ (by omega) (fr_I2 hf rfl) (fun i hi9 => ?_) (fun i hi9 => rd_ne (by omega) (hi i hi9))
      by_cases hik : i = k
      · rw [hik, po_usI_at]
      · exact rd_ne (by omega) (hc i (by omega))
  refine e_X13_keepRow ?_
  refine u_X13_keepRow_0 ?_; unfold qm_X13_keepRow_0
  refine w_cs1 (R := fun r => r = (nI d, z)) ⟨r, hr, Prod.ext e h1⟩ (fun a z1 e9 => ?_)
  cases e9
  exact key ((tk sg A).length + 1) 0 z (by omega) fr_rf (fun i hi => by omega) (fun i _ => rfl)
theorem xq_moved {k : Int32} {Ms : List (rn_L × (Nat → Bool))} (h : gI X z) (hR : relR z St) (hM : rlR 20 21 22 2700 z Ms) : Te (fun K => qe_X13_moved K k z) (fun r => (rFl X z 1 r ∧ ¬ in9 k Ms.length ∨ ∃ j A sg, Ms[j]? = some (A, sg) ∧ k = nI j ∧ (rFl X z 2 r ∧ allF St ∨ ∃ e, lstF St e ∧ r.1 = nI e ∧ gI X r.2 ∧ r.2.1 1 = 0 ∧ fr rPk z r.2 ∧ relR r.2 (upP St e (some (A, sg)))))) := by
  let Q : Int32 × ow_MS → Prop := fun r => (rFl X z 1 r ∧ ¬ in9 k Ms.length ∨ ∃ j A sg, Ms[j]? = some (A, sg) ∧ k = nI j ∧ (rFl X z 2 r ∧ allF St ∨ ∃ e, lstF St e ∧ r.1 = nI e ∧ gI X r.2 ∧ r.2.1 1 = 0 ∧ fr rPk z r.2 ∧ relR r.2 (upP St e (some (A, sg)))))
  have h1 := gI_1 (c := 0) h
  have hR1 := relR_1 (c := 0) hR
  obtain ⟨hm, hM1, hM2⟩ := hM
  have c1 : ¬ in9 k Ms.length → Tt (fun K i => q_X13_moved K i 1 k (usF z 1 0)) Q := by
    intro hno
    refine u_X13_moved_1 ?_; unfold qm_X13_moved_1
    exact w_mono (w_failX (k := 1) h1 fr_1) (fun r hr => Or.inl ⟨hr, hno⟩)
  have hk9 := in9_iff (x := k) (n := Ms.length) (by omega)
  have l2 : (usF z 1 0).1 22 = nI Ms.length := (usF_n9 (by decide)).trans hM1
  refine e_X13_moved ?_
  refine u_X13_moved_0 ?_; unfold qm_X13_moved_0
  refine w_wrF (w_if (fun h9 => c1 (fun h8 => (hk9.mp h8).1 h9)) (fun h0 => w_rdF l2 (w_if (fun h9 => ?_) (fun h9 => c1 (fun h8 => h9 (hk9.mp h8).2)))))
  obtain ⟨j, hj, rfl⟩ := hk9.mpr ⟨h0, h9⟩
  obtain ⟨C, hC⟩ : ∃ C, Ms[j]? = some C := ⟨_, List.getElem?_eq_getElem hj⟩
  obtain ⟨A, sg⟩ := C
  obtain ⟨i, i1, i2, i3, i4⟩ := hM2 j A sg hC
  have i4 : vRow (usF z 1 0) 20 (32 * i) A sg := i4
  refine w_freeX hR1 (fun h0 => w_ifT rfl (w_mono (w_failX (k := 2) h1 fr_1) (fun r hr => Or.inr ⟨j, A, sg, hC, rfl, Or.inl ⟨hr, h0⟩⟩))) (fun f hlf => w_ifF (rn_neg1 (by have := hlf.1; omega)) (w_rdI ml21 rfl (by omega) i2 ?_))
  rw [show (32 : Int32) * nI i = nI (32 * i) from pk_mul 32 i]
  refine w_cs1 (xr_keepRow h1 hR1 hlf (by omega) ml20 (by omega) (by omega) i4 i3) (fun a z1 ⟨q1, q2, q3, q4⟩ => w_some (Or.inr ⟨j, A, sg, hC, rfl, Or.inr ⟨f, hlf, q2, q1, ?_, fr_tr (fr_F (Or.inl rfl)) (fr_mono (fun g hg => Or.inr (Or.inl hg)) q3), q4⟩⟩))
  show z1.1 1 = 0
  rw [(q3 1 (by omega)).1]
  exact po_usF_at
theorem xq_summand {k : Int32} {Ms : List (rn_L × (Nat → Bool))} (h : gI X z) (hR : relR z St) (hM : rlR 35 39 36 16 z Ms) : Te (fun K => qe_X13_summand K k z) (fun r => (rFl X z 1 r ∧ ¬ in9 k Ms.length ∨ ∃ j A sg, Ms[j]? = some (A, sg) ∧ k = nI j ∧ (rFl X z 2 r ∧ allF St ∨ ∃ e, lstF St e ∧ r.1 = nI e ∧ gI X r.2 ∧ r.2.1 1 = 0 ∧ fr rPk z r.2 ∧ relR r.2 (upP St e (some (A, sg)))))) := by
  let Q : Int32 × ow_MS → Prop := fun r => (rFl X z 1 r ∧ ¬ in9 k Ms.length ∨ ∃ j A sg, Ms[j]? = some (A, sg) ∧ k = nI j ∧ (rFl X z 2 r ∧ allF St ∨ ∃ e, lstF St e ∧ r.1 = nI e ∧ gI X r.2 ∧ r.2.1 1 = 0 ∧ fr rPk z r.2 ∧ relR r.2 (upP St e (some (A, sg)))))
  have h1 := gI_1 (c := 0) h
  have hR1 := relR_1 (c := 0) hR
  obtain ⟨hm, hM1, hM2⟩ := hM
  have c1 : ¬ in9 k Ms.length → Tt (fun K i => q_X13_summand K i 1 k (usF z 1 0)) Q := by
    intro hno
    refine u_X13_summand_1 ?_; unfold qm_X13_summand_1
    exact w_mono (w_failX (k := 1) h1 fr_1) (fun r hr => Or.inl ⟨hr, hno⟩)
  have hk9 := in9_iff (x := k) (n := Ms.length) (by omega)
  have l2 : (usF z 1 0).1 36 = nI Ms.length := (usF_n9 (by decide)).trans hM1
  refine e_X13_summand ?_
  refine u_X13_summand_0 ?_; unfold qm_X13_summand_0
  refine w_wrF (w_if (fun h9 => c1 (fun h8 => (hk9.mp h8).1 h9)) (fun h0 => w_rdF l2 (w_if (fun h9 => ?_) (fun h9 => c1 (fun h8 => h9 (hk9.mp h8).2)))))
  obtain ⟨j, hj, rfl⟩ := hk9.mpr ⟨h0, h9⟩
  obtain ⟨C, hC⟩ : ∃ C, Ms[j]? = some C := ⟨_, List.getElem?_eq_getElem hj⟩
  obtain ⟨A, sg⟩ := C
  obtain ⟨i, i1, i2, i3, i4⟩ := hM2 j A sg hC
  have i4 : vRow (usF z 1 0) 35 (32 * i) A sg := i4
  refine w_freeX hR1 (fun h0 => w_ifT rfl (w_mono (w_failX (k := 2) h1 fr_1) (fun r hr => Or.inr ⟨j, A, sg, hC, rfl, Or.inl ⟨hr, h0⟩⟩))) (fun f hlf => w_ifF (rn_neg1 (by have := hlf.1; omega)) (w_rdI ml39 rfl (by omega) i2 ?_))
  rw [show (32 : Int32) * nI i = nI (32 * i) from pk_mul 32 i]
  refine w_cs1 (xr_keepRow h1 hR1 hlf (by omega) ml35 (by omega) (by omega) i4 i3) (fun a z1 ⟨q1, q2, q3, q4⟩ => w_some (Or.inr ⟨j, A, sg, hC, rfl, Or.inr ⟨f, hlf, q2, q1, ?_, fr_tr (fr_F (Or.inl rfl)) (fr_mono (fun g hg => Or.inr (Or.inl hg)) q3), q4⟩⟩))
  show z1.1 1 = 0
  rw [(q3 1 (by omega)).1]
  exact po_usF_at
end XMV
section XMC
variable {vl : Nat → Nat} {y : ow_MS} {St : plT} {x : Int32}
theorem xc_copyOut {g p : Nat} {Ms : List (rn_L × (Nat → Bool))} (hg : tH g p) (hg2 : g = 2000 ∨ g = 3000) (hM : rlC g p y Ms) (hO : okM Ms) (hN : gM y) (hC : relC y St) (hS : okS St) : Te (fun K => ce_X11_copyOut vl K 0 g x y) (fun r => gM r.2.2 ∧ (r.1 = 1 ∧ r.2.2 = y ∧ ¬ in9 x Ms.length ∨ ∃ j A sg, Ms[j]? = some (A, sg) ∧ x = nI j ∧ (r.1 = 3 ∧ r.2.2 = y ∧ allF St ∨ r.1 = 0 ∧ ∃ e, lstF St e ∧ r.2.1 = nI e ∧ fr (cW 1000) y r.2.2 ∧ relC r.2.2 (upP St e (some (A, sg)))))) := by
  have hp := tH_p hg
  obtain ⟨Cs, os, hT, hos, hat⟩ := hM
  have hl := hT.2.2.2.1
  have hx9 := in9_iff (x := x) (n := Ms.length) (by omega)
  have hc5 := hT.1.1
  rw [hos] at hc5
  refine e_X11_copyOut ?_; unfold cm_X11_copyOut_0
  refine w_if (fun h9 => w_some ⟨hN, Or.inl ⟨rfl, rfl, fun h8 => (hx9.mp h8).1 h9⟩⟩) (fun e0 => w_rdF hc5 (w_if (fun h9 => ?_) (fun h9 => w_some ⟨hN, Or.inl ⟨rfl, rfl, fun h8 => h9 (hx9.mp h8).2⟩⟩)))
  obtain ⟨k, hk, rfl⟩ := hx9.mpr ⟨e0, h9⟩
  obtain ⟨C, hC0⟩ : ∃ C, Ms[k]? = some C := ⟨_, List.getElem?_eq_getElem hk⟩
  obtain ⟨A, sg⟩ := C
  have eat := hat k A sg hC0
  obtain ⟨o1, o2, c, o3⟩ := hO k A sg hC0
  refine w_tc1 (xc_free hN.1.1 hC hS) ?_ ?_
  · rintro v y2 ⟨h2, rfl⟩
    rcases h2 with h2 | ⟨-, e, rfl, hlf⟩
    · exact absurd (show (0 : Nat) = 3 from h2.1) (by decide)
    · obtain ⟨s, s1, s2, s3, s4⟩ := tab_at hT.1 (show k < os.length by omega)
      have hCl : Cs.length = os.length := hT.1.2.1
      refine w_crI (tH_4 hg) rfl (show k < p by omega) s2 (w_cs0 (tc_write ch_1000 hg (by omega) hlf.1 (show s < p by omega) s3 s4 hT.2.2.2.2) ?_)
      rintro y4 ⟨w1, w2, w3, w4⟩
      rw [eat] at w1
      exact w_some ⟨⟨gN_put hN.1 ⟨A, sg, c, o3, rfl⟩ w1 w2 w3 w4, tbs_fr w4 (fun g hg => by unfold cW at hg; omega) hN.2⟩, Or.inr ⟨k, A, sg, hC0, rfl, Or.inr ⟨rfl, e, hlf, rfl, w4, relC_put hN.1.1 hC hS w1 w2⟩⟩⟩
  · rintro a v y2 ha ⟨h2, rfl⟩
    rcases h2 with h2 | h2
    · exact w_some ⟨hN, Or.inr ⟨k, A, sg, hC0, rfl, Or.inl ⟨h2.1, rfl, h2.2⟩⟩⟩
    · exact absurd h2.1 ha
end XMC
end
section
/-! 99zzzzzzzzzzd.xbo5 -/
/-! both sides: moved, summand -/
section XBM
variable {X : (Nat → Nat → Int32) → Prop} {z y : ow_MS} {St : plT} {vl : Nat → Nat} {x : Int32}
theorem okS_put {e : Nat} {A : rn_L} {sg : Nat → Bool} (hS : okS St) (h : A ≠ [] ∧ plnA A sg ∧ ∃ c, okL A c) : okS (upP St e (some (A, sg))) := fun d B sb hd hs => by
  by_cases ed : d = e
  · rw [ed, show upP St e (some (A, sg)) e = some (A, sg) from if_pos rfl] at hs
    have := Option.some.inj hs
    rw [← (Prod.mk.inj this).1, ← (Prod.mk.inj this).2]
    exact h
  · rw [show upP St e (some (A, sg)) d = St d from if_neg ed] at hs
    exact hS d B sb hd hs
theorem mv_jn {m : Nat} {Ms : List (rn_L × (Nat → Bool))} {rr : Int32 × ow_MS} {rc : Nat × Int32 × ow_MS} (h : rel1 X z y St) (hm : Ms.length ≤ m) (hO : okM Ms) (hr : rFl X z 1 rr ∧ ¬ in9 x Ms.length ∨ ∃ j A sg, Ms[j]? = some (A, sg) ∧ x = nI j ∧ (rFl X z 2 rr ∧ allF St ∨ ∃ e, lstF St e ∧ rr.1 = nI e ∧ gI X rr.2 ∧ rr.2.1 1 = 0 ∧ fr rPk z rr.2 ∧ relR rr.2 (upP St e (some (A, sg))))) (hc : gM rc.2.2 ∧ (rc.1 = 1 ∧ rc.2.2 = y ∧ ¬ in9 x Ms.length ∨ ∃ j A sg, Ms[j]? = some (A, sg) ∧ x = nI j ∧ (rc.1 = 3 ∧ rc.2.2 = y ∧ allF St ∨ rc.1 = 0 ∧ ∃ e, lstF St e ∧ rc.2.1 = nI e ∧ fr (cW 1000) y rc.2.2 ∧ relC rc.2.2 (upP St e (some (A, sg)))))) (hm31 : m ≤ 2700 := by omega) : (∃ St', rel1 X rr.2 rc.2.2 St') ∧ gM rc.2.2 ∧ fr rPk z rr.2 ∧ fr (cW 1000) y rc.2.2 ∧ ansI [(1, 1), (2, 3)] rr rc := by
  obtain ⟨hG, hc⟩ := hc
  have fail : ∀ {j k : Nat}, rFl X z j rr → (j, k) ∈ [(1, 1), (2, 3)] → rc.1 = k → rc.2.2 = y → (∃ St', rel1 X rr.2 rc.2.2 St') ∧ gM rc.2.2 ∧ fr rPk z rr.2 ∧ fr (cW 1000) y rc.2.2 ∧ ansI [(1, 1), (2, 3)] rr rc := fun {j k} hf hm e1 e2 => ⟨⟨St, hf.1, hG.1, relR_fr hf.2.2 (by unfold rPs rSc; omega) h.2.2.1, by rw [e2]; exact h.2.2.2.1, h.2.2.2.2⟩, hG, fr_mono (fun g hg => rPs_k hg) hf.2.2, by rw [e2]; exact fr_rf, Or.inr ⟨j, k, hm, hf.2.1, e1⟩⟩
  have lt : ∀ {j : Nat} {C : rn_L × (Nat → Bool)}, Ms[j]? = some C → j < Ms.length := fun hC => (List.getElem?_eq_some_iff.mp hC).1
  rcases hr with ⟨r1, r2⟩ | ⟨j, A, sg, j1, j2, hr⟩
  · rcases hc with ⟨c1, c2, -⟩ | ⟨j, A, sg, j1, j2, -⟩
    · exact fail r1 (by simp) c1 c2
    · exact absurd ⟨j, lt j1, j2⟩ r2
  · rcases hc with ⟨-, -, c3⟩ | ⟨j', A', sg', j1', j2', hc⟩
    · exact absurd ⟨j, lt j1, j2⟩ c3
    · have l1 := lt j1
      have l2 := lt j1'
      have ej : j = j' := nI_inj9 (by omega) (by omega) (j2.symm.trans j2')
      subst ej
      rw [j1] at j1'
      have eA := Option.some.inj j1'
      obtain ⟨q1, q2⟩ := Prod.mk.inj eA
      subst q1
      subst q2
      rcases hr with ⟨r1, r2⟩ | ⟨e, r0, r1, r2, r3, r4, r5⟩
      · rcases hc with ⟨c1, c2, -⟩ | ⟨-, e, c1, -⟩
        · exact fail r1 (by simp) c1 c2
        · exact (all_lst r2 c1).elim
      · rcases hc with ⟨-, -, c3⟩ | ⟨c0, e', c1, c2, c3, c4⟩
        · exact (all_lst c3 r0).elim
        · have ee := lst_uni2 r0 c1
          subst ee
          exact ⟨⟨_, r2, hG.1, r5, c4, okS_put h.2.2.2.2 (hO j A sg j1)⟩, hG, r4, c3, Or.inl ⟨r3, c0, r1.trans c2.symm⟩⟩
theorem b_moved {Ms : List (rn_L × (Nat → Bool))} (h : rel1 X z y St) (hG : gM y) (hz : rlR 20 21 22 2700 z Ms) (hy : rlC 2000 1848 y Ms) (hO : okM Ms) : Te (fun K => qe_X13_moved K x z) (fun rr => Te (fun K => ce_X11_moved vl K 0 x y) (fun rc => (∃ St', rel1 X rr.2 rc.2.2 St') ∧ gM rc.2.2 ∧ fr rPk z rr.2 ∧ fr (cW 1000) y rc.2.2 ∧ ansI [(1, 1), (2, 3)] rr rc)) := by
  have hcls : Te (fun K => ce_X11_moved vl K 0 x y) (fun r => gM r.2.2 ∧ (r.1 = 1 ∧ r.2.2 = y ∧ ¬ in9 x Ms.length ∨ ∃ j A sg, Ms[j]? = some (A, sg) ∧ x = nI j ∧ (r.1 = 3 ∧ r.2.2 = y ∧ allF St ∨ r.1 = 0 ∧ ∃ e, lstF St e ∧ r.2.1 = nI e ∧ fr (cW 1000) y r.2.2 ∧ relC r.2.2 (upP St e (some (A, sg)))))) := by
    refine e_X11_moved ?_; unfold cm_X11_moved_0
    refine w_tc1 (xc_copyOut tH2 (Or.inl rfl) hy hO hG h.2.2.2.1 h.2.2.2.2) ?_ ?_
    · rintro v y1 h1
      exact w_some h1
    · rintro a v y1 ha h1
      refine w_some ⟨h1.1, ?_⟩
      rcases h1.2 with h2 | ⟨j, A, sg, k1, k2, h2⟩
      · exact Or.inl h2
      · rcases h2 with h2 | h2
        · exact Or.inr ⟨j, A, sg, k1, k2, Or.inl h2⟩
        · exact absurd h2.1 ha
  exact te_two (xq_moved h.1 h.2.2.1 hz) hcls (fun rr rc hr hc => mv_jn h hz.1 hO hr hc)
theorem b_summand {Ms : List (rn_L × (Nat → Bool))} (h : rel1 X z y St) (hG : gM y) (hz : rlR 35 39 36 16 z Ms) (hy : rlC 3000 12 y Ms) (hO : okM Ms) : Te (fun K => qe_X13_summand K x z) (fun rr => Te (fun K => ce_X11_summand vl K 0 x y) (fun rc => (∃ St', rel1 X rr.2 rc.2.2 St') ∧ gM rc.2.2 ∧ fr rPk z rr.2 ∧ fr (cW 1000) y rc.2.2 ∧ ansI [(1, 1), (2, 3)] rr rc)) := by
  have hcls : Te (fun K => ce_X11_summand vl K 0 x y) (fun r => gM r.2.2 ∧ (r.1 = 1 ∧ r.2.2 = y ∧ ¬ in9 x Ms.length ∨ ∃ j A sg, Ms[j]? = some (A, sg) ∧ x = nI j ∧ (r.1 = 3 ∧ r.2.2 = y ∧ allF St ∨ r.1 = 0 ∧ ∃ e, lstF St e ∧ r.2.1 = nI e ∧ fr (cW 1000) y r.2.2 ∧ relC r.2.2 (upP St e (some (A, sg)))))) := by
    refine e_X11_summand ?_; unfold cm_X11_summand_0
    refine w_tc1 (xc_copyOut tH3 (Or.inr rfl) hy hO hG h.2.2.2.1 h.2.2.2.2) ?_ ?_
    · rintro v y1 h1
      exact w_some h1
    · rintro a v y1 ha h1
      refine w_some ⟨h1.1, ?_⟩
      rcases h1.2 with h2 | ⟨j, A, sg, k1, k2, h2⟩
      · exact Or.inl h2
      · rcases h2 with h2 | h2
        · exact Or.inr ⟨j, A, sg, k1, k2, Or.inl h2⟩
        · exact absurd h2.1 ha
  exact te_two (xq_summand h.1 h.2.2.1 hz) hcls (fun rr rc hr hc => mv_jn h hz.1 hO hr hc)
end XBM
end
section
/-! 99zzzzzzzzzze.xga -/
/-! related places: every kept diagram of the class is plane, and its visits are of two kinds that alternate -/
section XGA
variable {vl : Nat → Nat} {y : ow_MS} {St : plT}
theorem rel_pl (hN : gN y) (hC : relC y St) (hS : okS St) {d c : Nat} {A : rn_L} {sg : Nat → Bool} (hd : d < 40) (hs : slC y 1000 d (clC sg A)) (hA : okL A c) (hne : A ≠ []) : plnA A sg := by
  have hl : 0 < (clC sg A).2.length := by
    show 0 < (ucd sg 0 [] A).length
    rw [ucd_len]
    have := List.length_pos_iff.mpr hne
    omega
  have ok := (okL_c (sg := sg) hA).2
  cases e : St d with
  | none =>
    have h9 := (hC d hd).1 e
    have h8 : y.2.1 1002 d = nI (clC sg A).2.length := hs.2.1
    rw [h8] at h9
    have := nI_inj9 (a := (clC sg A).2.length) (b := 0) (by have := ok.2.1; omega) (by omega) h9
    omega
  | some P =>
    obtain ⟨k1, k2, c', k3⟩ := hS d P.1 P.2 hd e
    have eC := slC_uni ok (okL_c k3).2 hs ((hC d hd).2 P.1 P.2 e)
    obtain ⟨q1, q2, q3⟩ := clC_inj hA k3 eC
    intro f T hi hT
    rw [q1] at hi
    exact k2 f T (isoV_sg hi (fun p hp => (q3 p.1 (by
      have := ((k3.1.2 p).mp hp).1
      omega)).symm)) hT
theorem rel_ga (vl : Nat → Nat) (hN : gN y) (hC : relC y St) (hS : okS St) : gaS y := fun d A sg c hd hs hA => by
  by_cases hne : A = []
  · rw [hne]
    exact ⟨fun _ => false, fun L hL => (by cases hL), fun x hx => (by cases hx)⟩
  · obtain ⟨y1, -, g1, g2, T, hT, hT1, hV, hpm, hTp⟩ := xc_ld (vl := vl) hN hd hs hA (rel_pl hN hC hS hd hs hA hne)
    obtain ⟨w, hw⟩ := plane_ga (isoV_vn hV) hV.1.2.2.1 hTp
    exact ⟨_, gaA_of hV hw⟩
/-- signs made 1, 0, -1 -/
def sg3 (G : Nat → Int32) (x : Nat) : Int32 := if G x < 0 then -1 else if G x = 0 then 0 else 1
theorem sg3_lt {G : Nat → Int32} {x : Nat} : (sg3 G x < 0 ↔ G x < 0) ∧ (0 < sg3 G x ↔ 0 < G x) := by
  unfold sg3
  by_cases h : G x < 0
  · rw [if_pos h]
    exact ⟨⟨fun _ => h, fun _ => by decide⟩, fun h9 => absurd h9 (by decide), fun h9 => absurd (Int32.lt_trans h h9) (Int32.lt_irrefl)⟩
  · rw [if_neg h]
    by_cases h0 : G x = 0
    · rw [if_pos h0, h0]
      exact ⟨Iff.rfl, Iff.rfl⟩
    · rw [if_neg h0]
      refine ⟨⟨fun h9 => absurd h9 (by decide), fun h9 => absurd h9 h⟩, fun _ => ?_, fun _ => by decide⟩
      have a1 : ¬ (G x).toInt < (0 : Int32).toInt := fun h9 => h (Int32.lt_iff_toInt_lt.mpr h9)
      have a2 : (G x).toInt ≠ (0 : Int32).toInt := fun h9 => h0 (Int32.toInt_inj.mp h9)
      refine Int32.lt_iff_toInt_lt.mpr ?_
      omega
theorem stG_3 {G : Nat → Int32} : stG (sg3 G) = stG G := funext fun v => by
  unfold stG
  rw [decide_eq_decide.mpr (sg3_lt (G := G) (x := v / 2)).2]
theorem rel_plS (hN : gN y) (hC : relC y St) (hS : okS St) : plS y := fun d A sg c hd hs hA T hV hT => by
  have hv := isoV_vn hV
  by_cases hne : A = []
  · have h0 : T.1 = 0 := by
      have := hV.1.2.1
      rw [hne] at this
      have this : 0 = 2 * T.1 := this
      omega
    rw [plane_iff hv hV.1.2.2.1]
    refine ⟨[], fun v hv9 => by omega, fun d => d, [], fun d hd9 => by omega, fun x hx => absurd hx List.not_mem_nil, List.nodup_nil, ?_⟩
    show T.1 + 2 * 0 ≤ 0
    omega
  · have hp := rel_pl hN hC hS hd hs hA hne
    have hV' : isoV A sg (fun x => x) (T.1, T.2.1, T.2.2.1, sg3 T.2.2.2) := ⟨⟨hV.1.1, hV.1.2.1, hV.1.2.2.1, hV.1.2.2.2.1, hV.1.2.2.2.2.1, hV.1.2.2.2.2.2.1, fun p hp9 => sg3_lt.1.trans (hV.1.2.2.2.2.2.2.1 p hp9), hV.1.2.2.2.2.2.2.2⟩, hV.2⟩
    have hpm : pm1 (T.1, T.2.1, T.2.2.1, sg3 T.2.2.2) := fun x hx => by
      have hx0 := hT x hx
      show sg3 T.2.2.2 x = 1 ∨ sg3 T.2.2.2 x = -1
      unfold sg3
      by_cases h : T.2.2.2 x < 0
      · rw [if_pos h]
        exact Or.inr rfl
      · rw [if_neg h, if_neg hx0]
        exact Or.inl rfl
    have h1 := (plane_iff (T := (T.1, T.2.1, T.2.2.1, sg3 T.2.2.2)) hv hV.1.2.2.1).mp (hp _ _ hV' hpm)
    have h1 : pn_pl T.1 T.2.2.1 (stG (sg3 T.2.2.2)) := h1
    rw [stG_3] at h1
    exact (plane_iff hv hV.1.2.2.1).mpr h1
end XGA
end
section
/-! 99zzzzzzzzzzf.xfrm -/
/-! what a call leaves alone stays related -/
section XFR
variable {P Q : Nat → Prop} {z z1 y y1 : ow_MS} {Ms : List (rn_L × (Nat → Bool))}
theorem relT_k (hz : fr P z z1) (hy : fr Q y y1) (h1 : ¬ P 10 ∧ ¬ P 11) (h2 : ¬ Q 11001 ∧ ¬ Q 11002) (h : relT z y) : relT z1 y1 := by
  obtain ⟨t, t1, t2, t3, t4⟩ := h
  exact ⟨t, t1, by rw [(hz 11 h1.2).1]; exact t2, by rw [(hy 11001 h2.1).1]; exact t3, fun k hk => by rw [(hz 10 h1.1).2.1, (hy 11002 h2.2).2.1]; exact t4 k hk⟩
theorem relB_k (hz : fr P z z1) (hy : fr Q y y1) (h1 : ¬ P 94 ∧ ¬ P 95 ∧ ¬ P 96) (h2 : ¬ Q 13 ∧ ¬ Q 14 ∧ ¬ Q 15) (h : relB z y) : relB z1 y1 := fun b hb => by
  rw [(hz 94 h1.1).2.1, (hz 95 h1.2.1).2.1, (hz 96 h1.2.2).2.1, (hy 13 h2.1).2.1, (hy 14 h2.2.1).2.1, (hy 15 h2.2.2).2.1]
  exact h b hb
theorem rlR_k {h h' n m : Nat} (hz : fr P z z1) (h1 : ¬ P h ∧ ¬ P h' ∧ ¬ P n) (hr : rlR h h' n m z Ms) : rlR h h' n m z1 Ms := by
  obtain ⟨r1, r2, r3⟩ := hr
  refine ⟨r1, by rw [(hz n h1.2.2).1]; exact r2, fun k A sg hC => ?_⟩
  obtain ⟨j, j1, j2, j3, j4⟩ := r3 k A sg hC
  exact ⟨j, j1, by rw [(hz h' h1.2.1).2.1]; exact j2, j3, rc_fr hz h1.1 j4.1, j4.2⟩
theorem rlC_k {g p : Nat} (hy : fr Q y y1) (h1 : ∀ q, cV g q → ¬ Q q) (hr : rlC g p y Ms) : rlC g p y1 Ms := by
  obtain ⟨Cs, os, r1, r2⟩ := hr
  exact ⟨Cs, os, tbO_fr hy h1 r1, r2⟩
/-- all that was related so far, besides the places -/
def rel2 (z y : ow_MS) : Prop := relT z y ∧ relB z y ∧ brC y ∧ (∃ Ms, rlR 20 21 22 2700 z Ms ∧ rlC 2000 1848 y Ms ∧ okM Ms) ∧ ∃ Ms, rlR 35 39 36 16 z Ms ∧ rlC 3000 12 y Ms ∧ okM Ms
theorem rel2_k (hz : fr P z z1) (hy : fr Q y y1) (h1 : ∀ g, P g → g = 1 ∨ g = 12 ∨ rSc g) (h2 : ∀ g, Q g → 1001 ≤ g ∧ g ≤ 1005 ∨ 4001 ≤ g ∧ g ≤ 11000 ∨ 11003 ≤ g) (h : rel2 z y) : rel2 z1 y1 := by
  obtain ⟨k1, k2, k3, ⟨Ms, k4, k5, k6⟩, Ns, k7, k8, k9⟩ := h
  have no : ∀ g, 13 ≤ g → g < 1000 → ¬ P g := fun g g1 g2 h9 => by
    have := h1 g h9
    unfold rSc at this
    omega
  have no2 : ∀ g, g < 1001 ∨ 1005 < g ∧ g < 4001 ∨ g = 11001 ∨ g = 11002 → ¬ Q g := fun g g1 h9 => by
    have := h2 g h9
    omega
  refine ⟨relT_k hz hy ⟨fun h9 => ?_, fun h9 => ?_⟩ ⟨no2 _ (by omega), no2 _ (by omega)⟩ k1, relB_k hz hy ⟨no _ (by omega) (by omega), no _ (by omega) (by omega), no _ (by omega) (by omega)⟩ ⟨no2 _ (by omega), no2 _ (by omega), no2 _ (by omega)⟩ k2, brC_fr hy ⟨no2 _ (by omega), no2 _ (by omega), no2 _ (by omega)⟩ k3, ⟨Ms, rlR_k hz ⟨no _ (by omega) (by omega), no _ (by omega) (by omega), no _ (by omega) (by omega)⟩ k4, rlC_k hy (fun q hq => no2 q (by unfold cV at hq; omega)) k5, k6⟩, Ns, rlR_k hz ⟨no _ (by omega) (by omega), no _ (by omega) (by omega), no _ (by omega) (by omega)⟩ k7, rlC_k hy (fun q hq => no2 q (by unfold cV at hq; omega)) k8, k9⟩
  · have := h1 10 h9
    unfold rSc at this
    omega
  · have := h1 11 h9
    unfold rSc at this
    omega
theorem gM_u3 (hN : gN y1) (hf : fr uP y y1) (h : gM y) : gM y1 := ⟨hN, tbs_fr hf (fun g hg => by unfold uP at hg; omega) h.2⟩
/-- the whole relation so far -/
def rel3 (X : (Nat → Nat → Int32) → Prop) (z y : ow_MS) : Prop := (∃ St, rel1 X z y St) ∧ gM y ∧ rel2 z y
theorem both_3 {X : (Nat → Nat → Int32) → Prop} {em : List (Nat × Nat)} {rr : Int32 × ow_MS} {rc : Nat × Int32 × ow_MS} (h : rel3 X z y) (hb : bothI em X z y rr rc) : rel3 X rr.2 rc.2.2 ∧ ansI em rr rc := by
  obtain ⟨⟨St, b1⟩, b2, b3, b4⟩ := hb
  exact ⟨⟨⟨St, b1⟩, gM_u3 b1.2.1 b3 h.2.1, rel2_k b2 b3 (fun g hg => hg) (fun g hg => by unfold uP at hg; omega) h.2.2⟩, b4⟩
end XFR
end
section
/-! 99zzzzzzzzzzg.xr3 -/
/-! the whole relation so far is kept by the calls of braids and of the tape -/
section XR3
variable {X : (Nat → Nat → Int32) → Prop} {P Q : Nat → Prop} {z z1 y y1 : ow_MS} {vl : Nat → Nat} {x x' : Int32}
theorem gM_o (hf : fr Q y y1) (hQ : ∀ g, Q g → 13 ≤ g ∧ g ≤ 15 ∨ g = 11001 ∨ g = 11002) (h : gM y) : gM y1 := ⟨⟨dgC_fr hf (fun g g1 g2 h9 => by have := hQ g h9; omega) h.1.1, nsC_fr hf (fun h hh g hg h9 => far_cP (g := g) (by have := hQ g h9; omega) h hh hg) h.1.2.1, kdC_fr hf (fun g h9 => by have := hQ g h9; omega) h.1.2.2⟩, tbs_fr hf (fun g h9 => by have := hQ g h9; omega) h.2⟩
/-- the places and the lists, where only tape and braids changed -/
theorem rel3_o (hz : fr P z z1) (hy : fr Q y y1) (h1 : ∀ g, P g → rPs g ∨ g = 10 ∨ g = 11 ∨ 94 ≤ g ∧ g ≤ 96) (h2 : ∀ g, Q g → 13 ≤ g ∧ g ≤ 15 ∨ g = 11001 ∨ g = 11002) (hI : gI X z1) (hT : relT z1 y1) (hB : relB z1 y1) (hb : brC y1) (h : rel3 X z y) : rel3 X z1 y1 := by
  obtain ⟨⟨St, k1, k2, k3, k4, k5⟩, hM, -, -, -, ⟨Ms, m1, m2, m3⟩, Ns, n1, n2, n3⟩ := h
  have hM1 := gM_o hy h2 hM
  have no : ∀ g, 12 ≤ g → g < 94 → ¬ P g := fun g g1 g2 h9 => by
    have := h1 g h9
    unfold rPs rSc at this
    omega
  have no2 : ∀ g, 1001 ≤ g → g < 4000 → ¬ Q g := fun g g1 g2 h9 => by
    have := h2 g h9
    omega
  exact ⟨⟨St, hI, hM1.1, relR_fr hz (no 12 (by omega) (by omega)) k3, relC_fr hy (fun q hq => no2 q (by unfold cW at hq; omega) (by unfold cW at hq; omega)) k4, k5⟩, hM1, hT, hB, hb, ⟨Ms, rlR_k hz ⟨no _ (by omega) (by omega), no _ (by omega) (by omega), no _ (by omega) (by omega)⟩ m1, rlC_k hy (fun q hq => no2 q (by unfold cV at hq; omega) (by unfold cV at hq; omega)) m2, m3⟩, Ns, rlR_k hz ⟨no _ (by omega) (by omega), no _ (by omega) (by omega), no _ (by omega) (by omega)⟩ n1, rlC_k hy (fun q hq => no2 q (by unfold cV at hq; omega) (by unfold cV at hq; omega)) n2, n3⟩
theorem r3_g (h : rel3 X z y) : gI X z := by
  obtain ⟨⟨St, k⟩, -⟩ := h
  exact k.1
theorem fr_bq (hz : fr (fun g => rPs g ∨ 94 ≤ g ∧ g ≤ 96) z z1) (hy : fr bdQ y y1) (hI : gI X z1) (hB : relB z1 y1) (hb : brC y1) (h : rel3 X z y) : rel3 X z1 y1 := rel3_o hz hy (fun g hg => by
  rcases hg with hg | hg
  · exact Or.inl hg
  · exact Or.inr (Or.inr (Or.inr hg))) (fun g hg => by unfold bdQ at hg; omega) hI (relT_k hz hy ⟨fun h9 => by unfold rPs rSc at h9; omega, fun h9 => by unfold rPs rSc at h9; omega⟩ ⟨fun h9 => by unfold bdQ at h9; omega, fun h9 => by unfold bdQ at h9; omega⟩ h.2.2.1) hB hb h
theorem c_product (h : rel3 X z y) : Te (fun K => qe_X13_product K x x' z) (fun rr => Te (fun K => ce_X11_product vl K 0 x x' y) (fun rc => rel3 X rr.2 rc.2.2 ∧ ansI [(1, 1), (2, 2), (3, 4), (4, 3)] rr rc)) := w_monoE (b_product (r3_g h) h.2.2.2.2.1 h.2.2.2.1) (fun rr hr => w_monoE hr (fun rc ⟨k1, k2, k3, k4, k5, k6⟩ => ⟨fr_bq k4 k5 k2 k1 k3 h, k6⟩))
theorem c_inverse (h : rel3 X z y) : Te (fun K => qe_X13_inverse K x z) (fun rr => Te (fun K => ce_X11_inverse vl K 0 x y) (fun rc => rel3 X rr.2 rc.2.2 ∧ ansI [(1, 1), (2, 3)] rr rc)) := w_monoE (b_inverse (r3_g h) h.2.2.2.2.1 h.2.2.2.1) (fun rr hr => w_monoE hr (fun rc ⟨k1, k2, k3, k4, k5, k6⟩ => ⟨fr_bq k4 k5 k2 k1 k3 h, k6⟩))
theorem c_dropBraid (h : rel3 X z y) : Te (fun K => qe_X13_dropBraid K x z) (fun rr => Te (fun K => ce_X11_dropBraid vl K 0 x y) (fun rc => rel3 X rr.2 rc.2 ∧ rr.2.1 1 = 0 ∧ rr.1 = rc.1)) := w_monoE (b_dropBraid (r3_g h) h.2.2.2.2.1 h.2.2.2.1) (fun rr hr => w_monoE hr (fun rc ⟨k1, k2, k3, k4, k5, k6, k7⟩ => ⟨fr_bq k4 k5 k2 k1 k3 h, k6, k7⟩))
end XR3
end
section
/-! 99zzzzzzzzzzh.xr4 -/
/-! rel3 kept by braid, feed, end, alike, drop -/
section XR4
variable {X : (Nat → Nat → Int32) → Prop} {z y : ow_MS} {vl : Nat → Nat} {x x' : Int32}
theorem c_braid (h : rel3 X z y) : Te (fun K => qe_X13_braid K x z) (fun rr => Te (fun K => ce_X11_braid vl K 0 x y) (fun rc => rel3 X rr.2 rc.2.2 ∧ ansI [(1, 2), (2, 3)] rr rc)) := w_monoE (b_braid (r3_g h) h.2.2.2.2.1 h.2.2.2.1 h.2.2.1) (fun rr hr => w_monoE hr (fun rc ⟨k1, k0, k2, k3, k4, k5, k6⟩ => ⟨rel3_o k4 k5 (fun g hg => by
  rcases hg with hg | hg
  · exact Or.inl hg
  · exact Or.inr (Or.inr hg)) (fun g hg => by unfold bdP at hg; omega) k2 k0 k1 k3 h, k6⟩))
theorem c_feed {a b c d e : Int32} (h : rel3 X z y) : Te (fun K => qe_X13_feed K a b c d e z) (fun rr => Te (fun K => ce_X11_feed vl K 0 a b c d e y) (fun rc => rel3 X rr.2 rc.2.2 ∧ ansI [(1, 3)] rr rc)) := w_monoE (b_feed (r3_g h) h.2.2.1) (fun rr hr => w_monoE hr (fun rc ⟨k0, k2, k4, k5, k6⟩ => ⟨rel3_o k4 k5 (fun g hg => by
  rcases hg with hg | hg
  · exact Or.inl hg
  · exact Or.inr (by omega)) (fun g hg => by unfold tpP at hg; omega) k2 k0 (relB_k k4 k5 ⟨fun h9 => by unfold rPs rSc at h9; omega, fun h9 => by unfold rPs rSc at h9; omega, fun h9 => by unfold rPs rSc at h9; omega⟩ ⟨fun h9 => by unfold tpP at h9; omega, fun h9 => by unfold tpP at h9; omega, fun h9 => by unfold tpP at h9; omega⟩ h.2.2.2.1) (brC_fr k5 ⟨fun h9 => by unfold tpP at h9; omega, fun h9 => by unfold tpP at h9; omega, fun h9 => by unfold tpP at h9; omega⟩ h.2.2.2.2.1) h, k6⟩))
theorem c_end (h : rel3 X z y) : Te (fun K => qe_X13_end K x z) (fun rr => Te (fun K => ce_X11_end vl K 0 x y) (fun rc => rel3 X rr rc.2 ∧ (rr.1 1 = 0 ∧ rc.1 = 0 ∨ rr.1 1 = nI 1 ∧ rc.1 = 2))) := w_monoE (b_end (r3_g h) h.2.2.1) (fun rr hr => w_monoE hr (fun rc ⟨k0, k2, k4, k5, k6⟩ => ⟨rel3_o k4 k5 (fun g hg => by
  rcases hg with hg | hg
  · exact Or.inl hg
  · exact Or.inr (by omega)) (fun g hg => by omega) k2 k0 (relB_k k4 k5 ⟨fun h9 => by unfold rPs rSc at h9; omega, fun h9 => by unfold rPs rSc at h9; omega, fun h9 => by unfold rPs rSc at h9; omega⟩ ⟨fun h9 => by omega, fun h9 => by omega, fun h9 => by omega⟩ h.2.2.2.1) (brC_fr k5 ⟨fun h9 => by omega, fun h9 => by omega, fun h9 => by omega⟩ h.2.2.2.2.1) h, k6⟩))
theorem both_Z {rr rc : Int32 × ow_MS} (h : rel3 X z y) (hb : bothZ X z y rr rc) : rel3 X rr.2 rc.2 ∧ rr.2.1 1 = 0 ∧ rr.1 = rc.1 := by
  obtain ⟨⟨St, b1⟩, b2, b3, b4, b5⟩ := hb
  exact ⟨⟨⟨St, b1⟩, gM_u3 b1.2.1 b3 h.2.1, rel2_k b2 b3 (fun g hg => hg) (fun g hg => by unfold uP at hg; omega) h.2.2⟩, b4, b5⟩
end XR4
end
section
/-! 99zzzzzzzzzzi.xr5 -/
/-! rel3 kept by moved, summand -/
section XR5
variable {X : (Nat → Nat → Int32) → Prop} {z y : ow_MS} {vl : Nat → Nat} {x : Int32}
theorem c_moved (h : rel3 X z y) : Te (fun K => qe_X13_moved K x z) (fun rr => Te (fun K => ce_X11_moved vl K 0 x y) (fun rc => rel3 X rr.2 rc.2.2 ∧ ansI [(1, 1), (2, 3)] rr rc)) := by
  obtain ⟨⟨St, k⟩, hM, h2⟩ := id h
  obtain ⟨Ms, m1, m2, m3⟩ := h2.2.2.2.1
  exact w_monoE (b_moved k hM m1 m2 m3) (fun rr hr => w_monoE hr (fun rc ⟨k1, k2, k3, k4, k5⟩ => ⟨⟨k1, k2, rel2_k k3 k4 (fun g hg => hg) (fun g hg => by unfold cW at hg; omega) h2⟩, k5⟩))
theorem c_summand (h : rel3 X z y) : Te (fun K => qe_X13_summand K x z) (fun rr => Te (fun K => ce_X11_summand vl K 0 x y) (fun rc => rel3 X rr.2 rc.2.2 ∧ ansI [(1, 1), (2, 3)] rr rc)) := by
  obtain ⟨⟨St, k⟩, hM, h2⟩ := id h
  obtain ⟨Ms, m1, m2, m3⟩ := h2.2.2.2.2
  exact w_monoE (b_summand k hM m1 m2 m3) (fun rr hr => w_monoE hr (fun rc ⟨k1, k2, k3, k4, k5⟩ => ⟨⟨k1, k2, rel2_k k3 k4 (fun g hg => hg) (fun g hg => by unfold cW at hg; omega) h2⟩, k5⟩))
end XR5
end
section
/-! 99zzzzzzzzzzj.xcl1 -/
/-! closed braids: the visits of each strand, one behind the other -/
def rnL (w : Nat → Nat) (lp : Nat → Bool) (s : Nat) : Nat → List vT
  | 0 => []
  | i + 1 => if psn w s i = w i ∨ psn w s i = w i + 1 then rnL w lp s i ++ [(i, ubn w lp s i)] else rnL w lp s i
section RNL
variable {w : Nat → Nat} {lp : Nat → Bool} {s t n l : Nat}
theorem rnL_on {i : Nat} (h : onL w s i) : rnL w lp s (i + 1) = rnL w lp s i ++ [(i, ubn w lp s i)] := if_pos h
theorem rnL_off {i : Nat} (h : ¬ onL w s i) : rnL w lp s (i + 1) = rnL w lp s i ∧ psn w s (i + 1) = psn w s i := by
  refine ⟨if_neg h, ?_⟩
  show sw2 (w i) (w i + 1) (psn w s i) = _
  unfold sw2
  rw [if_neg (fun e => h (Or.inl e)), if_neg (fun e => h (Or.inr e))]
theorem rnL_mem : ∀ {i : Nat} {p : vT}, p ∈ rnL w lp s i ↔ p.1 < i ∧ onL w s p.1 ∧ p.2 = ubn w lp s p.1
  | 0, p => ⟨fun h => (by cases h), fun h => absurd h.1 (Nat.not_lt_zero _)⟩
  | i + 1, p => by
    by_cases h : onL w s i
    · rw [rnL_on h, List.mem_append, rnL_mem, List.mem_singleton]
      constructor
      · rintro (⟨a, b⟩ | e)
        · exact ⟨by omega, b⟩
        · rw [e]
          exact ⟨Nat.lt_succ_self _, h, rfl⟩
      · rintro ⟨a, b, c⟩
        by_cases e : p.1 = i
        · exact Or.inr (Prod.ext e (by rw [c, e]))
        · exact Or.inl ⟨by omega, b, c⟩
    · rw [(rnL_off (lp := lp) h).1, rnL_mem]
      constructor
      · rintro ⟨a, b⟩
        exact ⟨by omega, b⟩
      · rintro ⟨a, b, c⟩
        refine ⟨?_, b, c⟩
        by_cases q : p.1 = i
        · rw [q] at b
          exact absurd b h
        · omega
theorem rnL_nd : ∀ i, (rnL w lp s i).Nodup
  | 0 => List.nodup_nil
  | i + 1 => by
    by_cases h : onL w s i
    · rw [rnL_on h]
      refine List.nodup_append.mpr ⟨rnL_nd i, List.nodup_cons.mpr ⟨List.not_mem_nil, List.nodup_nil⟩, fun a ha b hb e => ?_⟩
      have h1 := (rnL_mem.mp ha).1
      rw [List.mem_singleton.mp hb] at e
      rw [e] at h1
      exact Nat.lt_irrefl _ h1
    · rw [(rnL_off (lp := lp) h).1]
      exact rnL_nd i
theorem rnL_uni {i j : Nat} {p : vT} (h1 : p ∈ rnL w lp s i) (h2 : p ∈ rnL w lp t j) : s = t := by
  apply Classical.byContradiction
  intro hst
  obtain ⟨-, a2, a3⟩ := rnL_mem.mp h1
  obtain ⟨-, b2, b3⟩ := rnL_mem.mp h2
  exact ubn_ne (lp := lp) hst a2 b2 (a3.symm.trans b3)
theorem rnL_nil : ∀ i, rnL w lp s i = [] → psn w s i = s
  | 0, _ => rfl
  | i + 1, e => by
    by_cases h : onL w s i
    · rw [rnL_on h] at e
      exact absurd e (by simp)
    · obtain ⟨e1, e2⟩ := rnL_off (lp := lp) h
      rw [e1] at e
      rw [e2]
      exact rnL_nil i e
theorem rnL_le : ∀ d i, (rnL w lp s i).length ≤ (rnL w lp s (i + d)).length
  | 0, i => Nat.le_refl _
  | d + 1, i => by
    refine Nat.le_trans (rnL_le d i) ?_
    show _ ≤ (rnL w lp s (i + d + 1)).length
    by_cases h : onL w s (i + d)
    · rw [rnL_on h, List.length_append]
      omega
    · rw [(rnL_off (lp := lp) h).1]
      exact Nat.le_refl _
theorem rnL_all (hw : ∀ i, i < l → w i + 1 < n) {p : vT} (h1 : p.1 < l) (h2 : p.2 < 2) : ∃ s, s < n ∧ p ∈ rnL w lp s l := by
  have hwi := hw _ h1
  obtain ⟨s0, a0, e0⟩ := psn_sur (w := w) (n := n) p.1 (w p.1) (by omega) (fun i hi9 => hw i (by omega))
  obtain ⟨s1, a1, e1⟩ := psn_sur (w := w) (n := n) p.1 (w p.1 + 1) hwi (fun i hi9 => hw i (by omega))
  have hne : s0 ≠ s1 := fun e => by rw [e, e1] at e0; omega
  have o0 : onL w s0 p.1 := Or.inl e0
  have o1 : onL w s1 p.1 := Or.inr e1
  have hd := ubn_ne (lp := lp) hne o0 o1
  have u0 := ubn_lt (w := w) (lp := lp) (s := s0) (i := p.1)
  have u1 := ubn_lt (w := w) (lp := lp) (s := s1) (i := p.1)
  by_cases hu : p.2 = ubn w lp s0 p.1
  · exact ⟨s0, a0, rnL_mem.mpr ⟨h1, o0, hu⟩⟩
  · exact ⟨s1, a1, rnL_mem.mpr ⟨h1, o1, by omega⟩⟩
/-- a row of strands, each going on as the next one -/
def opR (π : Nat → Nat) (j : Nat) (R : List Nat) (a : Nat) : Prop := (∀ X c d Y, R = X ++ c :: d :: Y → π c = d) ∧ (∀ X c, R = X ++ [c] → π c = a) ∧ (R = [] → a = j) ∧ ∀ c Y, R = c :: Y → c = j
theorem opR_nil {π : Nat → Nat} {j : Nat} : opR π j [] j := ⟨fun X c d Y e => by simp at e, fun X c e => by simp at e, fun _ => rfl, fun c Y e => by cases e⟩
theorem snoc2 {α : Type} {M X Y : List α} {a c d : α} (e : M ++ [a] = X ++ c :: d :: Y) : (Y = [] ∧ M = X ++ [c] ∧ d = a) ∨ ∃ Y', Y = Y' ++ [a] ∧ M = X ++ c :: d :: Y' := by
  rcases List.eq_nil_or_concat Y with h | ⟨Y', y, h⟩
  · subst h
    have e2 : M ++ [a] = (X ++ [c]) ++ [d] := by rw [e]; simp
    obtain ⟨q1, q2⟩ := List.append_inj' e2 rfl
    cases q2
    exact Or.inl ⟨rfl, q1, rfl⟩
  · rw [List.concat_eq_append] at h
    subst h
    have e2 : M ++ [a] = (X ++ c :: d :: Y') ++ [y] := by rw [e]; simp
    obtain ⟨q1, q2⟩ := List.append_inj' e2 rfl
    cases q2
    exact Or.inr ⟨Y', rfl, q1⟩
theorem snoc1 {α : Type} {M X : List α} {a c : α} (e : M ++ [a] = X ++ [c]) : M = X ∧ c = a := by
  obtain ⟨q1, q2⟩ := List.append_inj' e rfl
  cases q2
  exact ⟨q1, rfl⟩
theorem opR_snoc {π : Nat → Nat} {j a : Nat} {R : List Nat} (h : opR π j R a) : opR π j (R ++ [a]) (π a) := by
  obtain ⟨h1, h2, h3, h4⟩ := h
  refine ⟨fun X c d Y e => ?_, fun X c e => ?_, fun e => by simp at e, fun c Y e => ?_⟩
  · rcases snoc2 e with ⟨-, q1, q2⟩ | ⟨Y', -, q1⟩
    · rw [q2]
      exact h2 X c q1
    · exact h1 X c d Y' q1
  · rw [(snoc1 e).2]
  · cases R with
    | nil =>
      cases e
      exact h3 rfl
    | cons r R' =>
      cases e
      exact h4 _ _ rfl
/-- who comes before -/
theorem opR_pre {π : Nat → Nat} {j a x : Nat} {R : List Nat} (h : opR π j R a) (hx : x ∈ R) (hj : x ≠ j) : ∃ c, c ∈ R ∧ π c = x := by
  obtain ⟨X, Y, e⟩ := List.append_of_mem hx
  rcases List.eq_nil_or_concat X with q | ⟨X', c, q⟩
  · rw [q] at e
    exact absurd (h.2.2.2 _ _ e) hj
  · rw [List.concat_eq_append] at q
    have e2 : R = X' ++ c :: x :: Y := by rw [e, q]; simp
    exact ⟨c, by rw [e2]; simp, h.1 _ _ _ _ e2⟩
/-- the ring's visits stand behind each other in the net -/
theorem cl_shw {N : Nat → Nat} {j : Nat} {R : List Nat} (hR : opR (fun s => psn w s l) j R j) (nd : (R.flatMap (fun s => rnL w lp s l)).Nodup) (J1 : ∀ s, s ∈ R → ∀ X a b Y, rnL w lp s l = X ++ a :: b :: Y → N (lb a) = lb b) (J2 : ∀ s, s ∈ R → ∀ X a, rnL w lp s l = X ++ [a] → ∃ b Y, rnL w lp (psn w s l) l = b :: Y ∧ N (lb a) = lb b) {p : vT} (hp : p ∈ R.flatMap (fun s => rnL w lp s l)) : N (lb p) = lb (sc (R.flatMap (fun s => rnL w lp s l)) p) := by
  obtain ⟨s, hs, hps⟩ := List.mem_flatMap.mp hp
  obtain ⟨X, Y, eR⟩ := List.append_of_mem hs
  obtain ⟨P, Q, eP⟩ := List.append_of_mem hps
  have eL : R.flatMap (fun s => rnL w lp s l) = (X.flatMap (fun s => rnL w lp s l) ++ P) ++ p :: (Q ++ Y.flatMap (fun s => rnL w lp s l)) := by
    rw [eR, List.flatMap_append, List.flatMap_cons, eP]
    simp
  have hno : p ∉ X.flatMap (fun s => rnL w lp s l) ++ P := fun h9 => by
    rw [eL] at nd
    exact (List.nodup_append.mp nd).2.2 p h9 p List.mem_cons_self rfl
  rw [eL, sc_hd hno]
  cases Q with
  | cons q Q' =>
    rw [J1 s hs P p q Q' eP]
    rfl
  | nil =>
    obtain ⟨b, Z, e1, e2⟩ := J2 s hs P p eP
    rw [e2]
    cases Y with
    | cons s' Y' =>
      have e3 := hR.1 X s s' Y' eR
      have e3 : psn w s l = s' := e3
      rw [e3] at e1
      rw [List.nil_append, List.flatMap_cons, e1]
      rfl
    | nil =>
      have e3 := hR.2.1 X s eR
      have e3 : psn w s l = j := e3
      rw [e3] at e1
      rw [List.flatMap_nil, List.append_nil, List.nil_append]
      cases X with
      | nil =>
        have e4 := hR.2.2.2 s [] eR
        rw [e4, e1] at eP
        cases P with
        | nil =>
          cases eP
          rfl
        | cons a P' =>
          cases eP
          rfl
      | cons x X' =>
        have e4 := hR.2.2.2 x (X' ++ [s]) eR
        rw [e4, List.flatMap_cons, e1]
        rfl
/-- rings without visits are strands without letters -/
theorem cl_cir1 {j : Nat} {R : List Nat} (hR : opR (fun s => psn w s l) j R j) (hne : R ≠ []) (nd : R.Nodup) : R.countP (fun s => (rnL w lp s l).isEmpty) = if (R.flatMap (fun s => rnL w lp s l)).isEmpty = true then 1 else 0 := by
  by_cases h : ∃ s, s ∈ R ∧ rnL w lp s l = []
  · obtain ⟨s, hs, e⟩ := h
    have hf : psn w s l = s := rnL_nil l e
    obtain ⟨X, Y, eR⟩ := List.append_of_mem hs
    have hY : Y = [] := by
      cases Y with
      | nil => rfl
      | cons s' Y' =>
        have e3 : psn w s l = s' := hR.1 X s s' Y' eR
        rw [hf] at e3
        rw [eR, ← e3] at nd
        have := (List.nodup_append.mp nd).2.1
        exact absurd List.mem_cons_self (List.nodup_cons.mp this).1
    subst hY
    have e3 : psn w s l = j := hR.2.1 X s eR
    have hX : X = [] := by
      cases X with
      | nil => rfl
      | cons x X' =>
        have e4 : x = j := hR.2.2.2 x (X' ++ [s]) eR
        rw [eR, e4, ← e3, hf] at nd
        exact absurd (by simp) (List.nodup_cons.mp nd).1
    subst hX
    rw [eR]
    simp [e]
  · have h0 : R.countP (fun s => (rnL w lp s l).isEmpty) = 0 := by
      rw [List.countP_eq_zero]
      intro s hs e
      exact h ⟨s, hs, List.isEmpty_iff.mp e⟩
    rw [h0, if_neg]
    intro e
    have e := List.isEmpty_iff.mp e
    obtain ⟨r, R', eR⟩ := List.exists_cons_of_ne_nil hne
    refine h ⟨r, by rw [eR]; exact List.mem_cons_self, ?_⟩
    rw [eR, List.flatMap_cons] at e
    exact (List.append_eq_nil_iff.mp e).1
theorem cl_cirs {Rs : List (List Nat)} : ∀ (_ : ∀ R, R ∈ Rs → ∃ j, opR (fun s => psn w s l) j R j ∧ R ≠ [] ∧ R.Nodup), cirs (Rs.map (fun R => R.flatMap (fun s => rnL w lp s l))) = Rs.flatten.countP (fun s => (rnL w lp s l).isEmpty) := by
  induction Rs with
  | nil => intro _; rfl
  | cons R Rs ih =>
    intro h
    obtain ⟨j, h1, h2, h3⟩ := h R List.mem_cons_self
    have h4 := ih (fun R hR => h R (List.mem_cons_of_mem _ hR))
    rw [List.flatten_cons, List.countP_append, cl_cir1 h1 h2 h3, ← h4, List.map_cons]
    unfold cirs
    rw [List.countP_cons]
    omega
theorem cnt_perm {q : Nat → Bool} {L : List Nat} (hn : L.Nodup) (hm : ∀ s, s ∈ L ↔ s < n) : L.countP q = cntB q n := by
  rw [cntB_fl, ← List.countP_eq_length_filter]
  exact List.Perm.countP_eq _ ((List.perm_ext_iff_of_nodup hn List.nodup_range).mpr (fun s => by rw [hm, List.mem_range]))
theorem cntB_not {q : Nat → Bool} : ∀ n, cntB q n + cntB (fun k => !q k) n = n
  | 0 => rfl
  | n + 1 => by
    have := cntB_not (q := q) n
    show cntB q n + (if q n then 1 else 0) + (cntB (fun k => !q k) n + (if (!q n) then 1 else 0)) = n + 1
    cases q n <;> simp <;> omega
end RNL
end
section
/-! 99zzzzzzzzzzk.xcl2 -/
/-! the class's closed braid, exactly -/
/-- the letters of a braid -/
def ltX (g : Nat) (z : ow_MS) (b n l : Nat) (w : Nat → Nat) (lp : Nat → Bool) : Prop := ∀ i, i < l → w i + 1 < n ∧ z.2.1 g (16 * b + i) = if lp i = true then nI (w i + 1) else -1 - nI (w i)
theorem ltX_a {g b n l i : Nat} {z : ow_MS} {w : Nat → Nat} {lp : Nat → Bool} (hn5 : n ≤ 5) (h : ltX g z b n l w lp) (hi : i < l) : ∃ a : Int, z.2.1 g (16 * b + i) = iI a ∧ a.natAbs ≤ 4 ∧ a.natAbs = w i + 1 ∧ (a < 0 ↔ lp i = false) := by
  obtain ⟨h1, h2⟩ := h i hi
  cases e : lp i with
  | true =>
    rw [e] at h2
    refine ⟨((w i + 1 : Nat) : Int), h2.trans (nI_iI _), by omega, by omega, fun h9 => by omega, fun h9 => by cases h9⟩
  | false =>
    rw [e] at h2
    have h2 : z.2.1 g (16 * b + i) = -1 - nI (w i) := h2
    refine ⟨-((w i + 1 : Nat) : Int), ?_, by omega, by omega, fun _ => rfl, fun _ => by omega⟩
    rw [h2, nI_iI, show (-1 : Int32) = iI (-1) from by decide, iI_sub]
    congr 1
    omega
def cbL (w : Nat → Nat) (lp : Nat → Bool) (n i : Nat) (La Fi : Nat → Option Nat) : Prop := (∀ s, s < n → La (psn w s i) = ((rnL w lp s i).getLast?).map lb) ∧ ∀ s, s < n → Fi s = ((rnL w lp s i).head?).map lb
def cbI (w : Nat → Nat) (lp : Nat → Bool) (n i : Nat) (S : ow_NP) (La Fi : Nat → Option Nat) : Prop := (∀ s, s < n → La (psn w s i) = ((rnL w lp s i).getLast?).map lb) ∧ (∀ s, s < n → Fi s = ((rnL w lp s i).head?).map lb) ∧ ∀ s, s < n → ∀ X a b Y, rnL w lp s i = X ++ a :: b :: Y → S.1 (lb a) = lb b
def clJ (w : Nat → Nat) (lp : Nat → Bool) (n l k : Nat) (S : ow_NP) : Prop := (∀ s, s < n → ∀ X a b Y, rnL w lp s l = X ++ a :: b :: Y → S.1 (lb a) = lb b) ∧ ∀ s, s < n → psn w s l < k → ∀ X a, rnL w lp s l = X ++ [a] → ∃ b Y, rnL w lp (psn w s l) l = b :: Y ∧ S.1 (lb a) = lb b
theorem exS_ne {S : ow_NP} {o : Option Nat} {v k : Nat} (h : o ≠ some k) : (exS S o v).1 k = S.1 k := by
  cases o with
  | none => rfl
  | some u => exact if_neg (fun e => h (by rw [e]))
theorem exS_at {S : ow_NP} {u v : Nat} : (exS S (some u) v).1 u = v := if_pos rfl
section CLI
variable {w : Nat → Nat} {lp : Nat → Bool} {n i : Nat} {S : ow_NP} {La Fi : Nat → Option Nat}
theorem rn_lb {s t j k : Nat} {a b : vT} (ha : a ∈ rnL w lp s j) (hb : b ∈ rnL w lp t k) (e : lb a = lb b) : a = b ∧ s = t := by
  obtain ⟨-, -, a3⟩ := rnL_mem.mp ha
  obtain ⟨-, -, b3⟩ := rnL_mem.mp hb
  have u1 := ubn_lt (w := w) (lp := lp) (s := s) (i := a.1)
  have u2 := ubn_lt (w := w) (lp := lp) (s := t) (i := b.1)
  unfold lb at e
  have e2 : a = b := Prod.ext (by omega) (by omega)
  rw [e2] at ha
  exact ⟨e2, rnL_uni ha hb⟩
theorem cbI_0 : cbI w lp n 0 S (fun _ => none) (fun _ => none) := ⟨fun _ _ => rfl, fun _ _ => rfl, fun s _ X a b Y e => by
  have e : [] = X ++ a :: b :: Y := e
  simp at e⟩
theorem cl_last (hw : ∀ j, j < i → w j + 1 < n) (h : cbL w lp n i La Fi) {k u : Nat} (hk : k < n) (e : La k = some u) : ∃ s X a, s < n ∧ psn w s i = k ∧ rnL w lp s i = X ++ [a] ∧ lb a = u := by
  obtain ⟨s, hs, es⟩ := psn_sur (w := w) (n := n) i k hk hw
  have h1 := h.1 s hs
  rw [es, e] at h1
  obtain ⟨a, e1, e2⟩ := Option.map_eq_some_iff.mp h1.symm
  obtain ⟨X, e3⟩ := List.getLast?_eq_some_iff.mp e1
  exact ⟨s, X, a, hs, es, e3, e2⟩
theorem cl_nlast (hw : ∀ j, j < i → w j + 1 < n) (h : cbL w lp n i La Fi) {s : Nat} {X Y : List vT} {a b : vT} (e : rnL w lp s i = X ++ a :: b :: Y) {k : Nat} (hk : k < n) : La k ≠ some (lb a) := fun e9 => by
  obtain ⟨s', X', a', -, -, q2, q3⟩ := cl_last hw h hk e9
  obtain ⟨e1, e2⟩ := rn_lb (w := w) (lp := lp) (s := s') (t := s) (j := i) (k := i) (by rw [q2]; simp) (by rw [e]; simp) q3
  rw [e1, e2, e] at q2
  have nd := rnL_nd (w := w) (lp := lp) (s := s) i
  rw [e] at nd
  have nd2 := (List.nodup_cons.mp (List.nodup_append.mp nd).2.1).1
  rcases snoc2 q2.symm with ⟨q4, -, q5⟩ | ⟨Y', q4, -⟩
  · exact nd2 (by rw [q5]; exact List.mem_cons_self)
  · exact nd2 (by rw [q4]; simp)
theorem cl_none (hw : ∀ j, j < i → w j + 1 < n) (h : cbL w lp n i La Fi) {k : Nat} (hk : k < n) : La k = none ↔ rnL w lp k i = [] := by
  constructor
  · intro e
    obtain ⟨s, hs, es⟩ := psn_sur (w := w) (n := n) i k hk hw
    have h1 := h.1 s hs
    rw [es, e] at h1
    have h2 := List.getLast?_eq_none_iff.mp (Option.map_eq_none_iff.mp h1.symm)
    have h4 : s = k := (rnL_nil i h2).symm.trans es
    rw [← h4]
    exact h2
  · intro e
    have h1 := h.1 k hk
    rw [rnL_nil i e, e] at h1
    exact h1
theorem head_ap {α : Type} {L M : List α} (h : L ≠ []) : (L ++ M).head? = L.head? := by
  cases L with
  | nil => exact absurd rfl h
  | cons a L => rfl
theorem cbI_step (hw : ∀ j, j ≤ i → w j + 1 < n) (h : cbI w lp n i S La Fi) {r m : Nat} (hr : r = 2 * i + if lp i = true then 0 else 1) (hm : m = 2 * i + if lp i = true then 1 else 0) : cbI w lp n (i + 1) (exS (exS S (La (w i)) r) (La (w i + 1)) m) (uO (uO (uO (uO La (w i) (some r)) (w i + 1) (some m)) (w i) (some m)) (w i + 1) (some r)) (exF (exF Fi (w i) (La (w i)) r) (w i + 1) (La (w i + 1)) m) := by
  have hwi := hw i (Nat.le_refl _)
  have hlt : ∀ j, j < i → w j + 1 < n := fun j hj => hw j (by omega)
  have hL : cbL w lp n i La Fi := ⟨h.1, h.2.1⟩
  have vL : ∀ s, psn w s i = w i → lb (i, ubn w lp s i) = r := fun s e => by
    show 2 * i + ubn w lp s i = r
    unfold ubn
    rw [hr, decide_eq_true e]
    cases lp i <;> rfl
  have vR : ∀ s, psn w s i = w i + 1 → lb (i, ubn w lp s i) = m := fun s e => by
    show 2 * i + ubn w lp s i = m
    unfold ubn
    rw [hm, decide_eq_false (by omega)]
    cases lp i <;> rfl
  have emp : ∀ k, k < n → La k = none → rnL w lp k i = [] ∧ psn w k i = k := fun k hk e => by
    have h2 := (cl_none hlt hL hk).mp e
    exact ⟨h2, rnL_nil i h2⟩
  have nee : ∀ s u, s < n → La (psn w s i) = some u → rnL w lp s i ≠ [] := fun s u hs e e9 => by
    have h1 := h.1 s hs
    rw [e, e9] at h1
    cases h1
  refine ⟨fun s hs => ?_, fun s hs => ?_, fun s hs X a b Y e => ?_⟩
  · by_cases o1 : psn w s i = w i
    · have ep : psn w s (i + 1) = w i + 1 := by
        show sw2 (w i) (w i + 1) (psn w s i) = _
        unfold sw2
        rw [if_pos o1]
      rw [ep, uO_at, rnL_on (Or.inl o1), List.getLast?_concat, Option.map_some, vL s o1]
    · by_cases o2 : psn w s i = w i + 1
      · have ep : psn w s (i + 1) = w i := by
          show sw2 (w i) (w i + 1) (psn w s i) = _
          unfold sw2
          rw [if_neg o1, if_pos o2]
        rw [ep, uO_ne (by omega), uO_at, rnL_on (Or.inr o2), List.getLast?_concat, Option.map_some, vR s o2]
      · have off : ¬ onL w s i := fun h9 => h9.elim o1 o2
        rw [(rnL_off (lp := lp) off).1, (rnL_off (lp := lp) off).2, uO_ne o2, uO_ne o1, uO_ne o2, uO_ne o1]
        exact h.1 s hs
  · have hFs := h.2.1 s hs
    by_cases o1 : psn w s i = w i
    · rw [rnL_on (Or.inl o1)]
      cases e1 : La (w i) with
      | none =>
        obtain ⟨q1, q2⟩ := emp (w i) (by omega) e1
        have es : s = w i := psn_inj i (o1.trans q2.symm)
        rw [es, q1]
        show _ = some (lb (i, ubn w lp (w i) i))
        rw [vL (w i) q2]
        cases e2 : La (w i + 1) with
        | none =>
          show uO (uO Fi (w i) (some r)) (w i + 1) (some m) (w i) = _
          rw [uO_ne (by omega), uO_at]
        | some u => exact uO_at
      | some u =>
        rw [head_ap (nee s u hs (by rw [o1]; exact e1)), ← hFs]
        cases e2 : La (w i + 1) with
        | none =>
          obtain ⟨q1, q2⟩ := emp (w i + 1) hwi e2
          show uO Fi (w i + 1) (some m) s = Fi s
          exact uO_ne (fun e9 => by rw [e9, q2] at o1; omega)
        | some u' => rfl
    · by_cases o2 : psn w s i = w i + 1
      · rw [rnL_on (Or.inr o2)]
        cases e2 : La (w i + 1) with
        | none =>
          obtain ⟨q1, q2⟩ := emp (w i + 1) hwi e2
          have es : s = w i + 1 := psn_inj i (o2.trans q2.symm)
          rw [es, q1]
          show uO _ (w i + 1) (some m) (w i + 1) = some (lb (i, ubn w lp (w i + 1) i))
          rw [vR _ q2, uO_at]
        | some u =>
          rw [head_ap (nee s u hs (by rw [o2]; exact e2)), ← hFs]
          show exF Fi (w i) (La (w i)) r s = Fi s
          cases e1 : La (w i) with
          | none =>
            obtain ⟨q1, q2⟩ := emp (w i) (by omega) e1
            show uO Fi (w i) (some r) s = Fi s
            exact uO_ne (fun e9 => by rw [e9, q2] at o2; omega)
          | some u' => rfl
      · have off : ¬ onL w s i := fun h9 => h9.elim o1 o2
        rw [(rnL_off (lp := lp) off).1, ← hFs]
        have d1 : La (w i) = none → s ≠ w i := fun e1 e9 => by
          obtain ⟨q1, q2⟩ := emp (w i) (by omega) e1
          rw [e9] at o1
          exact o1 q2
        have d2 : La (w i + 1) = none → s ≠ w i + 1 := fun e1 e9 => by
          obtain ⟨q1, q2⟩ := emp (w i + 1) hwi e1
          rw [e9] at o2
          exact o2 q2
        cases e1 : La (w i) with
        | none =>
          cases e2 : La (w i + 1) with
          | none =>
            show uO (uO Fi (w i) (some r)) (w i + 1) (some m) s = _
            rw [uO_ne (d2 e2), uO_ne (d1 e1)]
          | some u => exact uO_ne (d1 e1)
        | some u =>
          cases e2 : La (w i + 1) with
          | none => exact uO_ne (d2 e2)
          | some u => rfl
  · have old : ∀ X a b Y, rnL w lp s i = X ++ a :: b :: Y → (exS (exS S (La (w i)) r) (La (w i + 1)) m).1 (lb a) = lb b := fun X a b Y e => by
      rw [exS_ne (cl_nlast hlt hL e hwi), exS_ne (cl_nlast hlt hL e (by omega))]
      exact h.2.2 s hs X a b Y e
    by_cases o1 : onL w s i
    · rw [rnL_on o1] at e
      rcases snoc2 e with ⟨-, q1, q2⟩ | ⟨Y', -, q1⟩
      · have hl := h.1 s hs
        rw [q1, List.getLast?_concat] at hl
        have hl : La (psn w s i) = some (lb a) := hl
        have aS : a ∈ rnL w lp s i := by rw [q1]; simp
        rcases o1 with o1 | o1
        · rw [o1] at hl
          have hne : La (w i + 1) ≠ some (lb a) := fun e9 => by
            obtain ⟨s', X', a', -, k1, k2, k3⟩ := cl_last hlt hL hwi e9
            obtain ⟨-, k4⟩ := rn_lb (w := w) (lp := lp) (s := s') (t := s) (j := i) (k := i) (by rw [k2]; simp) aS k3
            rw [k4] at k1
            omega
          rw [exS_ne hne, hl, exS_at, q2, vL s o1]
        · rw [o1] at hl
          rw [hl, exS_at, q2, vR s o1]
      · exact old X a b Y' q1
    · rw [(rnL_off (lp := lp) o1).1] at e
      exact old X a b Y e
theorem clJ_none {l k : Nat} (hw : ∀ j, j < l → w j + 1 < n) (h : cbL w lp n l La Fi) (e : La k = none) (hJ : clJ w lp n l k S) : clJ w lp n l (k + 1) S := ⟨hJ.1, fun s hs hk X a e2 => by
  by_cases q : psn w s l = k
  · have h1 := h.1 s hs
    rw [q, e, e2, List.getLast?_concat] at h1
    cases h1
  · exact hJ.2 s hs (by omega) X a e2⟩
theorem clJ_some {l k u v : Nat} (hw : ∀ j, j < l → w j + 1 < n) (h : cbL w lp n l La Fi) (hk : k < n) (e1 : La k = some u) (e2 : Fi k = some v) (hJ : clJ w lp n l k S) : clJ w lp n l (k + 1) (nl S u v) := by
  have n1 : ∀ x, x ≠ u → (nl S u v).1 x = S.1 x := fun x hx => if_neg hx
  refine ⟨fun s hs X a b Y e => ?_, fun s hs hlt X a e => ?_⟩
  · rw [n1 _ (fun e9 => cl_nlast hw h e hk (by rw [e1, e9]))]
    exact hJ.1 s hs X a b Y e
  · have h1 := h.1 s hs
    rw [e, List.getLast?_concat] at h1
    have h1 : La (psn w s l) = some (lb a) := h1
    by_cases q : psn w s l = k
    · rw [q, e1] at h1
      cases h1
      have h2 := h.2 k hk
      rw [e2] at h2
      obtain ⟨b, b1, b2⟩ := Option.map_eq_some_iff.mp h2.symm
      obtain ⟨Y, b3⟩ := List.head?_eq_some_iff.mp b1
      rw [q]
      exact ⟨b, Y, b3, (if_pos rfl : (nl S (lb a) v).1 (lb a) = v).trans b2.symm⟩
    · obtain ⟨b, Y, k1, k2⟩ := hJ.2 s hs (by omega) X a e
      refine ⟨b, Y, k1, ?_⟩
      rw [n1 _ (fun e9 => ?_)]
      · exact k2
      · rw [← e9] at e1
        obtain ⟨s', X', a', -, m1, m2, m3⟩ := cl_last hw h hk e1
        obtain ⟨-, m4⟩ := rn_lb (w := w) (lp := lp) (s := s') (t := s) (j := l) (k := l) (by rw [m2]; simp) (by rw [e]; simp) m3
        rw [m4] at m1
        exact q m1
theorem cbL_cnt {l : Nat} (hw : ∀ j, j < l → w j + 1 < n) (h : cbL w lp n l La Fi) : cntB (fun k => (La k).isSome) n + cntB (fun s => (rnL w lp s l).isEmpty) n = n := by
  have h1 := cntB_not (q := fun k => (La k).isSome) n
  rw [cntB_cg (q := fun k => !(La k).isSome) (r := fun s => (rnL w lp s l).isEmpty) n (fun k hk => ?_)] at h1
  · exact h1
  · have h2 := cl_none hw h hk
    cases e : La k with
    | none =>
      rw [h2.mp e]
      rfl
    | some u =>
      have : rnL w lp k l ≠ [] := fun e9 => by
        rw [h2.mpr e9] at e
        cases e
      cases e9 : rnL w lp k l with
      | nil => exact absurd e9 this
      | cons a L => rfl
end CLI
section XCC
variable {vl : Nat → Nat} {y : ow_MS}
theorem xc_close {T : ow_NT} {b n l : Nat} {w : Nat → Nat} {lp : Nat → Bool} (hT : cAt y 4000 T) (hb : ow_b24 T.2.2.1) (hb20 : b < 20) (hn : 2 ≤ n) (hn5 : n ≤ 5) (hl : l ≤ 12) (hw : ltX 13 y b n l w lp) : Te (fun K => ce_X7_close vl K 4000 13 (nI (16 * b)) (nI l) (nI n) y) (fun y1 => (∃ T1, cAt y1 4000 T1 ∧ nv T1 ∧ T1.1 = l ∧ (∀ i, i < l → T1.2.2.2 i = if lp i = true then 1 else -1) ∧ clJ w lp n l n T1.2.2.1 ∧ T1.2.1 = cntB (fun s => (rnL w lp s l).isEmpty) n) ∧ fr clR y y1) := by
  let Q : ow_MS → Prop := fun y1 => (∃ T1, cAt y1 4000 T1 ∧ nv T1 ∧ T1.1 = l ∧ (∀ i, i < l → T1.2.2.2 i = if lp i = true then 1 else -1) ∧ clJ w lp n l n T1.2.2.1 ∧ T1.2.1 = cntB (fun s => (rnL w lp s l).isEmpty) n) ∧ fr clR y y1
  have hw2 : ∀ {z : ow_MS}, fr clR y z → ltX 13 z b n l w lp := fun hf i hi => by
    rw [(hf 13 (by unfold clR cP; omega)).2.1]
    exact hw i hi
  have hwn : ∀ i, i < l → w i + 1 < n := fun i hi => (hw i hi).1
  -- the strands closed
  have c5 : ∀ (La0 Fi0 : Nat → Option Nat), cbL w lp n l La0 Fi0 → ∀ (d k : Nat) (z : ow_MS) (S : ow_NP) (G : Nat → Int32) (ci : Nat) (La Fi : Nat → Option Nat), k + d = n → fr clR y z → cAt z 4000 (l, ci, S, G) → ow_b24 S → oX (fun v => v < 2 * l) (fun v => ∃ k, k < n ∧ La0 k = some v) n S La Fi → (∀ j, j < n → (La j = none ↔ Fi j = none)) → (∀ j, j < k → La j = none) → (∀ j, k ≤ j → La j = La0 j) → (∀ j, k ≤ j → Fi j = Fi0 j) → clJ w lp n l k S → (∀ i, i < l → G i = if lp i = true then 1 else -1) → (∀ j, k ≤ j → j < n → z.2.1 4007 j = oNI (La j)) → (∀ j, k ≤ j → j < n → z.2.1 4004 j = oNI (Fi j)) → ci + cntB (fun k => (La0 k).isSome) k = k → Tt (fun K t => c_X7_close vl K t 5 (nI (16 * b)) (nI l) (nI n) (nI k) 0 0 0 0 4000 13 4004 4007 0 0 z) Q := by
    intro La0 Fi0 hLF d
    induction d with
    | zero =>
      intro k z S G ci La Fi hk hf h1 h2 h3 h4 h5 h6 hF6 hJ hG h7 h8 h9
      have e : k = n := by omega
      subst e
      obtain ⟨q1, q2⟩ := oX_vn hl h3 h5 (fun j hj => (h4 j hj).mp (h5 j hj))
      refine u_X7_close_5 ?_; unfold cm_X7_close_5
      refine w_leT (by omega) (by omega) (w_some ⟨⟨_, h1, ⟨q1, hl, h2, ?_⟩, rfl, hG, hJ, ?_⟩, hf⟩)
      · show np_rg l S + ci ≤ 6
        omega
      · have := cbL_cnt hwn hLF
        show ci = _
        omega
    | succ d ih =>
      intro k z S G ci La Fi hk hf h1 h2 h3 h4 h5 h6 hF6 hJ hG h7 h8 h9
      have hcs : cntB (fun k => (La0 k).isSome) (k + 1) = cntB (fun k => (La0 k).isSome) k + (if (La0 k).isSome = true then 1 else 0) := rfl
      refine u_X7_close_5 ?_; unfold cm_X7_close_5
      refine w_leF (by omega) (by omega) ?_
      cases e : La k with
      | none =>
        have e7 : z.2.1 4007 k = -1 := by
          rw [h7 k (Nat.le_refl _) (by omega), e]
          rfl
        have e0 : La0 k = none := by rw [← h6 k (Nat.le_refl _)]; exact e
        refine w_crI (nH_7 nH4) rfl (show k < 24 by omega) e7 (w_ifT rfl (w_rdF h1.2.1 (w_wrF ?_)))
        refine u_X7_close_6 ?_; unfold cm_X7_close_6
        rw [nI_1 k]
        refine ih (k + 1) _ S G (ci + 1) La Fi (by omega) (fr_F2 hf (by unfold clR cP; omega)) ⟨rf_ot (by omega) h1.1, po_usF_at.trans (nI_1 _), h1.2.2⟩ h2 h3 h4 (fun j hj => ?_) (fun j hj => h6 j (by omega)) (fun j hj => hF6 j (by omega)) (clJ_none hwn hLF e0 hJ) hG (fun j hj => h7 j (by omega)) (fun j hj => h8 j (by omega)) ?_
        · by_cases ej : j = k
          · rw [ej]
            exact e
          · exact h5 j (by omega)
        · rw [hcs, e0]
          show ci + 1 + (_ + 0) = k + 1
          omega
      | some u =>
        have e7 : z.2.1 4007 k = nI u := by
          rw [h7 k (Nat.le_refl _) (by omega), e]
          rfl
        have e0 : La0 k = some u := by rw [← h6 k (Nat.le_refl _)]; exact e
        obtain ⟨w', ew⟩ : ∃ w', Fi k = some w' := by
          cases e9 : Fi k with
          | none =>
            have := (h4 k (by omega)).mpr e9
            rw [e] at this
            cases this
          | some w' => exact ⟨w', rfl⟩
        have e4 : z.2.1 4004 k = nI w' := by
          rw [h8 k (Nat.le_refl _) (by omega), ew]
          rfl
        have ew0 : Fi0 k = some w' := by rw [← hF6 k (Nat.le_refl _)]; exact ew
        have hu : u < 2 * l := h3.1 k u (by omega) e
        have hw9 : w' < 2 * l := h3.2.1 k w' (by omega) ew
        refine w_crI (nH_7 nH4) rfl (show k < 24 by omega) e7 (w_ifF (nI_nm1 (by omega)) (w_crI (nH_7 nH4) rfl (show k < 24 by omega) e7 (w_crI (nH_4 nH4) rfl (show k < 24 by omega) e4 (w_cs0 (tc_link nH4 h1 (show u < 24 by omega) (show w' < 24 by omega)) ?_))))
        rintro z1 ⟨g1, g2⟩
        refine u_X7_close_6 ?_; unfold cm_X7_close_6
        rw [nI_1 k]
        refine ih (k + 1) z1 (nl S u w') G ci (uO La k none) (uO Fi k none) (by omega) (fr_tr hf (fr_mono (fun g hg => Or.inl hg) g2)) g1 (nl_b24 h2 (by omega) (by omega)) (oX_close h3 (by omega) e ew ⟨k, by omega, e0⟩) (fun j hj => ?_) (fun j hj => ?_) (fun j hj => ?_) (fun j hj => ?_) (clJ_some hwn hLF (by omega) e0 ew0 hJ) hG (fun j hj hj2 => ?_) (fun j hj hj2 => ?_) ?_
        · by_cases ej : j = k
          · rw [ej, uO_at, uO_at]
          · rw [uO_ne ej, uO_ne ej]
            exact h4 j hj
        · by_cases ej : j = k
          · rw [ej, uO_at]
          · rw [uO_ne ej]
            exact h5 j (by omega)
        · rw [uO_ne (by omega)]
          exact h6 j (by omega)
        · rw [uO_ne (by omega)]
          exact hF6 j (by omega)
        · rw [uO_ne (by omega), (g2 4007 (by unfold cP; omega)).2.1]
          exact h7 j (by omega) hj2
        · rw [uO_ne (by omega), (g2 4004 (by unfold cP; omega)).2.1]
          exact h8 j (by omega) hj2
        · rw [hcs, e0]
          show ci + (_ + 1) = k + 1
          omega
  -- letter after letter
  have c1 : ∀ (d i : Nat) (z : ow_MS) (S : ow_NP) (G : Nat → Int32) (La Fi : Nat → Option Nat), i + d = l → fr clR y z → cAt z 4000 (i, 0, S, G) → ow_b24 S → oX (fun v => v < 2 * i) (fun _ => False) n S La Fi → cbI w lp n i S La Fi → (∀ j, j < i → G j = if lp j = true then 1 else -1) → (∀ j, j < n → (La j = none ↔ Fi j = none)) → (∀ j, j < n → z.2.1 4007 j = oNI (La j)) → (∀ j, j < n → z.2.1 4004 j = oNI (Fi j)) → Tt (fun K t => c_X7_close vl K t 1 (nI (16 * b)) (nI l) (nI n) (nI i) 0 0 0 0 4000 13 4004 4007 0 0 z) Q := by
    intro d
    induction d with
    | zero =>
      intro i z S G La Fi hi hf h1 h2 h3 hI hG h4 h5 h6
      have e : i = l := by omega
      subst e
      refine u_X7_close_1 ?_; unfold cm_X7_close_1
      refine w_leT (by omega) (by omega) ?_
      refine u_X7_close_4 ?_; unfold cm_X7_close_4
      exact c5 La Fi ⟨hI.1, hI.2.1⟩ n 0 z S G 0 La Fi (by omega) hf h1 h2 (oX_D (fun _ => Iff.rfl) (fun _ h => h.elim) h3) h4 (fun j hj => absurd hj (Nat.not_lt_zero _)) (fun _ _ => rfl) (fun _ _ => rfl) ⟨hI.2.2, fun s _ h9 => absurd h9 (Nat.not_lt_zero _)⟩ hG (fun j _ hj => h5 j hj) (fun j _ hj => h6 j hj) rfl
    | succ d ih =>
      intro i z S G La Fi hi hf h1 h2 h3 hI hG h4 h5 h6
      obtain ⟨a, a1, a2, a3, a4⟩ := ltX_a hn5 (hw2 hf) (show i < l by omega)
      obtain ⟨p1, p2⟩ := lt_b (a := a) (by omega) (by omega)
      have hwi := hwn i (by omega)
      have c3 : ∀ (z1 : ow_MS) (S1 : ow_NP) (La1 Fi1 : Nat → Option Nat) (x8 x9 x10 x11 t0 : Int32), t0 = (if lp i = true then 1 else -1) → cbI w lp n (i + 1) S1 La1 Fi1 → fr clR y z1 → cAt z1 4000 (i, 0, S1, G) → ow_b24 S1 → oX (fun v => v < 2 * (i + 1)) (fun _ => False) n S1 La1 Fi1 → (∀ j, j < n → (La1 j = none ↔ Fi1 j = none)) → (∀ j, j < n → z1.2.1 4007 j = oNI (La1 j)) → (∀ j, j < n → z1.2.1 4004 j = oNI (Fi1 j)) → Tt (fun K t => c_X7_close vl K t 3 (nI (16 * b)) (nI l) (nI n) (nI i) x8 x9 x10 x11 4000 13 4004 4007 t0 (nI i) z1) Q := by
        intro z1 S1 La1 Fi1 x8 x9 x10 x11 t0 ht0 hI1 q1 q2 q3 q4 q5 q6 q7
        obtain ⟨s1, s2, s3, s4, s5⟩ := q2
        refine u_X7_close_3 ?_; unfold cm_X7_close_3
        refine w_ctI (nH_3 nH4) rfl (show i < 12 by omega) (w_rdF (x := nI i) s1 (w_wrF ?_))
        rw [nI_1]
        refine ih (i + 1) _ S1 (su G i t0) La1 Fi1 (by omega) (fr_F2 (fr_I2 q1 (by unfold clR cP; omega)) (by unfold clR cP; omega)) ⟨po_usF_at, ?_, fun v => ?_, fun v => ?_, fun v => ?_⟩ q3 q4 hI1 (fun j hj => ?_) q5 (fun j hj => ?_) (fun j hj => ?_)
        · exact rf_ot (by omega) s2
        · exact rd_ot (by omega) (s3 v)
        · exact rd_ot (by omega) (s4 v)
        · show (usI z1 4003 i t0).2.1 4003 v = su G i t0 v
          by_cases ev : v = i
          · rw [ev]
            exact po_usI_at.trans (if_pos rfl).symm
          · rw [show su G i t0 v = G v from if_neg ev]
            exact rd_ne ev (s5 v)
        · show su G i t0 j = _
          by_cases ej : j = i
          · rw [ej, ← ht0]
            exact if_pos rfl
          · rw [show su G i t0 j = G j from if_neg ej]
            exact hG j (by omega)
        · exact rd_ot (by omega) (q6 j hj)
        · exact rd_ot (by omega) (q7 j hj)
      have c2 : ∀ r : Nat, (r = 2 * i + if lp i = true then 0 else 1) → Tt (fun K t => c_X7_close vl K t 2 (nI (16 * b)) (nI l) (nI n) (nI i) (iI a) (nI (a.natAbs - 1)) 0 0 4000 13 4004 4007 (nI r) 0 z) Q := by
        intro r hr0
        have hr : r = 2 * i ∨ r = 2 * i + 1 := by
          cases e9 : lp i <;> rw [e9] at hr0
          · exact Or.inr hr0
          · exact Or.inl hr0
        have hr24 : r < 24 := by omega
        have hm : (r = 2 * i ∧ mt r = 2 * i + 1) ∨ (r = 2 * i + 1 ∧ mt r = 2 * i) := by
          unfold mt
          rcases hr with e | e
          · exact Or.inl ⟨e, by rw [if_pos (by omega)]; omega⟩
          · exact Or.inr ⟨e, by rw [if_neg (by omega)]; omega⟩
        have hm24 : mt r < 24 := by omega
        have hm0 : mt r = 2 * i + if lp i = true then 1 else 0 := by
          cases e9 : lp i <;> rw [e9] at hr0
          · show mt r = 2 * i
            have hr0 : r = 2 * i + 1 := hr0
            omega
          · show mt r = 2 * i + 1
            have hr0 : r = 2 * i := hr0
            omega
        have hst := cbI_step (fun j hj => hwn j (by omega)) hI hr0 hm0
        rw [show a.natAbs - 1 = w i by omega]
        obtain ⟨j, hj⟩ : ∃ j, j = w i := ⟨_, rfl⟩
        rw [← hj] at hst ⊢
        have hjn : j + 1 < n := by omega
        have hlt : ∀ k u, k < n → La k = some u → u < 2 * i := fun k u hk e => h3.1 k u hk e
        obtain ⟨o1, o2⟩ := oX_step (k := j) (v := r) h3 h4 (by omega) (by omega) (fun u e => by have := hlt j u (by omega) e; omega)
        have eL : uO La j (some r) (j + 1) = La (j + 1) := uO_ne (by omega)
        obtain ⟨o3, o4⟩ := oX_step (k := j + 1) (v := mt r) o1 o2 hjn (by intro h9; rcases h9 with h9 | h9 <;> omega) (fun u e => by
          rw [eL] at e
          have := hlt (j + 1) u hjn e
          omega)
        rw [eL] at o3 o4
        have hb1 : ow_b24 (exS S (La j) r) := by
          cases e : La j with
          | none => exact h2
          | some u => exact nl_b24 h2 (by have := hlt j u (by omega) e; omega) hr24
        have hb2 : ow_b24 (exS (exS S (La j) r) (La (j + 1)) (mt r)) := by
          cases e : La (j + 1) with
          | none => exact hb1
          | some u => exact nl_b24 hb1 (by have := hlt (j + 1) u hjn e; omega) hm24
        refine u_X7_close_2 ?_; unfold cm_X7_close_2
        rw [nI_1, xor1 ⟨r, hr24⟩]
        refine w_cs0 (tc_extend (s := n) h1 (show j < n by omega) hn5 hr24 h5 h6 (fun u e => by have := hlt j u (by omega) e; omega)) ?_
        rintro z1 ⟨g1, g2, g3⟩
        have h51 : ∀ k, k < n → z1.2.1 4007 k = oNI (La k) := fun k hk => by
          rw [(g3 4007 (by unfold cP; omega)).2.1]
          exact h5 k hk
        refine w_cs0 (tc_extend (s := n) g1 hjn hn5 hm24 h51 g2 (fun u e => by have := hlt (j + 1) u hjn e; omega)) ?_
        rintro z2 ⟨g4, g5, g6⟩
        have hf2 : fr clR y z2 := fr_tr hf (fr_tr (fr_mono (fun g hg => hg.elim Or.inl (fun h9 => Or.inr (Or.inl h9))) g3) (fr_mono (fun g hg => hg.elim Or.inl (fun h9 => Or.inr (Or.inl h9))) g6))
        have h52 : ∀ k, k < n → z2.2.1 4007 k = oNI (La k) := fun k hk => by
          rw [(g6 4007 (by unfold cP; omega)).2.1]
          exact h51 k hk
        have hsw := oX_swap (j := j) (a := some (mt r)) (b := some r) o3 hjn (by rw [uO_ne (by omega), uO_at]) uO_at
        refine w_ctI (nH_7 nH4) rfl (show j < 24 by omega) (w_ctI (nH_7 nH4) rfl (show j + 1 < 24 by omega) ?_)
        have fin : ∀ t0 : Int32, t0 = (if lp i = true then 1 else -1) → Tt (fun K t => c_X7_close vl K t 3 (nI (16 * b)) (nI l) (nI n) (nI i) (iI a) (nI j) (nI r) (nI (mt r)) 4000 13 4004 4007 t0 (nI i) (usI (usI z2 4007 j (nI (mt r))) 4007 (j + 1) (nI r))) Q := by
          intro t0 ht0
          refine c3 _ (exS (exS S (La j) r) (La (j + 1)) (mt r)) _ _ _ _ _ _ t0 ht0 hst (fr_I2 (fr_I2 hf2 (by unfold clR; omega)) (by unfold clR; omega)) ?_ hb2 (oX_D (fun v => ?_) (fun _ h => h) hsw) (fun k hk => ?_) (fun k hk => ?_) (fun k hk => ?_)
          · exact cAt_fr (P := fun g => g = 4007) (fr_I2 (fr_I rfl) rfl) (fun g hg h9 => by unfold cP at hg; omega) g4
          · show ((v < 2 * i ∨ v = r) ∨ v = mt r) ↔ v < 2 * (i + 1)
            omega
          · have := o4 k hk
            by_cases e1 : k = j + 1
            · rw [e1, uO_at]
              have h9 := o4 (j + 1) hjn
              rw [uO_at] at h9
              exact ⟨fun h => (by cases h), fun h => absurd (h9.mpr h) (by intro h; cases h)⟩
            · rw [uO_ne e1]
              by_cases e2 : k = j
              · rw [e2, uO_at]
                have h9 := o4 j (by omega)
                rw [uO_ne (by omega), uO_at] at h9
                exact ⟨fun h => (by cases h), fun h => absurd (h9.mpr h) (by intro h; cases h)⟩
              · rw [uO_ne e2]
                exact this
          · by_cases e1 : k = j + 1
            · rw [e1, uO_at]
              exact po_usI_at
            · rw [uO_ne e1]
              by_cases e2 : k = j
              · rw [e2, uO_at]
                exact rd_ne (by omega) po_usI_at
              · rw [uO_ne e2, uO_ne e1, uO_ne e2]
                exact rd_ne e1 (rd_ne e2 (h52 k hk))
          · exact rd_ot (by omega) (rd_ot (by omega) (g5 k hk))
        refine w_if (fun h9 => fin (-1) ?_) (fun h9 => fin 1 ?_)
        · rw [a4.mp (p2.mp h9)]
          rfl
        · cases e9 : lp i with
          | true => rfl
          | false => exact absurd (p2.mpr (a4.mpr e9)) h9
      refine u_X7_close_1 ?_; unfold cm_X7_close_1
      rw [nI_add, show (2 : Int32) * nI i = nI (2 * i) from pk_mul 2 _, nI_1]
      refine w_leF (by omega) (by omega) (w_leF (a := 12) (by omega) (by omega) (w_crI ch_13 rfl (show 16 * b + i < 320 by omega) a1 ?_))
      rw [p1]
      refine w_if (fun h9 => c2 (2 * i + 1) ?_) (fun h9 => c2 (2 * i) ?_)
      · rw [a4.mp (p2.mp h9)]
        rfl
      · cases e9 : lp i with
        | true => rfl
        | false => exact absurd (p2.mpr (a4.mpr e9)) h9
  refine e_X7_close ?_
  refine u_X7_close_0 ?_; unfold cm_X7_close_0
  refine w_cs0 (tc_fill (a := 0) (b := n) (nH_4 nH4) (Nat.zero_le _) (show n ≤ 24 by omega) (by omega)) ?_
  rintro z1 ⟨a1, a2⟩
  refine w_cs0 (tc_fill (a := 0) (b := n) (nH_7 nH4) (Nat.zero_le _) (show n ≤ 24 by omega) (by omega)) ?_
  rintro z2 ⟨b1, b2⟩
  have t2 : cAt z2 4000 T := cAt_fr b2 (fun g hg h9 => by unfold cP at hg; omega) (cAt_fr a2 (fun g hg h9 => by unfold cP at hg; omega) hT)
  refine w_cs0 (tc_empty t2) ?_
  rintro z3 ⟨d1, d2⟩
  refine c1 l 0 z3 T.2.2.1 T.2.2.2 (fun _ => none) (fun _ => none) (by omega) (fr_tr (fr_mono (fun g hg => by rw [hg]; unfold clR; omega) a2) (fr_tr (fr_mono (fun g hg => by rw [hg]; unfold clR; omega) b2) (fr_mono (fun g hg => Or.inl hg) d2))) d1 hb ⟨fun k v _ e => (by cases e), fun k v _ e => (by cases e), fun k k' v _ _ e => (by cases e), fun k k' v _ _ e => (by cases e), fun v hv => absurd hv (Nat.not_lt_zero _), fun v hv => absurd hv (Nat.not_lt_zero _)⟩ cbI_0 (fun j hj => absurd hj (Nat.not_lt_zero _)) (fun _ _ => Iff.rfl) (fun j hj => ?_) (fun j hj => ?_)
  · rw [(d2 4007 (by unfold cP; omega)).2.1, b1 j, if_pos ⟨Nat.zero_le _, hj⟩]
    rfl
  · rw [(d2 4004 (by unfold cP; omega)).2.1, (b2 4004 (by omega)).2.1, a1 j, if_pos ⟨Nat.zero_le _, hj⟩]
    rfl
end XCC
end
section
/-! 99zzzzzzzzzzl.xcl3 -/
/-! the reference's closed braid, exactly -/
def rgS (w : Nat → Nat) (lp : Nat → Bool) (l : Nat) (Rs : List (List Nat)) : rn_L := Rs.map (fun R => R.flatMap (fun s => rnL w lp s l))
def clQ (w : Nat → Nat) (n l : Nat) (Rs : List (List Nat)) : Prop := Rs.flatten.Nodup ∧ (∀ s, s ∈ Rs.flatten → s < n) ∧ ∀ R, R ∈ Rs → R ≠ [] ∧ ∃ j, opR (fun s => psn w s l) j R j
section RGS
variable {w : Nat → Nat} {lp : Nat → Bool} {n l : Nat}
theorem fmR_nd : ∀ {L : List Nat}, L.Nodup → (L.flatMap (fun s => rnL w lp s l)).Nodup
  | [], _ => List.nodup_nil
  | a :: L, h => by
    rw [List.flatMap_cons]
    obtain ⟨h1, h2⟩ := List.nodup_cons.mp h
    refine List.nodup_append.mpr ⟨rnL_nd l, fmR_nd h2, fun p hp q hq e => ?_⟩
    obtain ⟨t, ht, hq2⟩ := List.mem_flatMap.mp hq
    rw [e] at hp
    have e2 := rnL_uni hp hq2
    rw [← e2] at ht
    exact h1 ht
theorem fmR_in {L : List Nat} {p : vT} (hp : p ∈ L.flatMap (fun s => rnL w lp s l)) : p.1 < l ∧ p.2 < 2 := by
  obtain ⟨t, ht, h2⟩ := List.mem_flatMap.mp hp
  obtain ⟨a1, a2, a3⟩ := rnL_mem.mp h2
  exact ⟨a1, by rw [a3]; exact ubn_lt⟩
theorem fmR_len {L : List Nat} (h : L.Nodup) : (L.flatMap (fun s => rnL w lp s l)).length ≤ 2 * l := by
  have h1 := nodup_le _ (aL l).flatten (fmR_nd (w := w) (lp := lp) (l := l) h) (fun p hp => ((aL_ok l).2 p).mpr (fmR_in hp))
  rw [aL_len] at h1
  exact h1
theorem rgS_fl : ∀ Rs : List (List Nat), (rgS w lp l Rs).flatten = Rs.flatten.flatMap (fun s => rnL w lp s l)
  | [] => rfl
  | R :: Rs => by
    have h1 := rgS_fl Rs
    show (R.flatMap (fun s => rnL w lp s l) :: rgS w lp l Rs).flatten = _
    rw [List.flatten_cons, List.flatten_cons, List.flatMap_append, h1]
theorem cyc_pre {π : Nat → Nat} {j x : Nat} {R : List Nat} (hne : R ≠ []) (h : opR π j R j) (hx : x ∈ R) : ∃ c, c ∈ R ∧ π c = x := by
  by_cases e : x = j
  · rcases List.eq_nil_or_concat R with q | ⟨X, c, q⟩
    · exact absurd q hne
    · rw [List.concat_eq_append] at q
      exact ⟨c, by rw [q]; simp, (h.2.1 X c q).trans e.symm⟩
  · exact opR_pre h hx e
theorem clQ_pre {Rs : List (List Nat)} (h : clQ w n l Rs) {a : Nat} (ha : psn w a l ∈ Rs.flatten) : a ∈ Rs.flatten := by
  obtain ⟨R, hR, hx⟩ := List.mem_flatten.mp ha
  obtain ⟨h1, j, h2⟩ := h.2.2 R hR
  obtain ⟨c, c1, c2⟩ := cyc_pre h1 h2 hx
  have e : c = a := psn_inj l c2
  rw [← e]
  exact List.mem_flatten.mpr ⟨R, hR, c1⟩
end RGS
section XRC
variable {X : (Nat → Nat → Int32) → Prop} {z : ow_MS}
theorem xr_run {b n l s : Nat} {w : Nat → Nat} {lp : Nat → Bool} {A : rn_L} {B : List vT} (hb : b < 20) (hB : hBr z b n l) (hw : ltX 94 z b n l w lp) (hs : s < n) (hA : rn_At z 3000 A B) (hG : rn_sg z 3000 (A.flatten ++ B) (fun i => !lp i)) (hlen : (A.flatten ++ B).length + (rnL w lp s l).length ≤ 39) : Te (fun K => qe_X13_run K (nI b) (nI s) z) (fun r => r.1 = nI (psn w s l) ∧ fr (fun g => 3001 ≤ g ∧ g ≤ 3006) z r.2 ∧ rn_At r.2 3000 A (B ++ rnL w lp s l) ∧ rn_sg r.2 3000 (A.flatten ++ (B ++ rnL w lp s l)) (fun i => !lp i)) := by
  obtain ⟨p1, p2, p3, p4, p5, p6⟩ := hB
  let Q : Int32 × ow_MS → Prop := fun r => r.1 = nI (psn w s l) ∧ fr (fun g => 3001 ≤ g ∧ g ≤ 3006) z r.2 ∧ rn_At r.2 3000 A (B ++ rnL w lp s l) ∧ rn_sg r.2 3000 (A.flatten ++ (B ++ rnL w lp s l)) (fun i => !lp i)
  have key : ∀ (d k : Nat) (y : ow_MS), k + d = l → fr (fun g => 3001 ≤ g ∧ g ≤ 3006) z y → rn_At y 3000 A (B ++ rnL w lp s k) → rn_sg y 3000 (A.flatten ++ (B ++ rnL w lp s k)) (fun i => !lp i) → Tt (fun K i9 => q_X13_run K i9 1 (nI b) (nI s) (nI (psn w s k)) (nI k) 0 0 0 0 0 y) Q := by
    intro d
    induction d with
    | zero =>
      intro k y hk hf ha hg
      have hkl : k = l := by omega
      rw [hkl] at ha hg ⊢
      refine u_X13_run_1 ?_; unfold qm_X13_run_1
      exact w_rdI ml95 rfl (by omega) (x := nI l) (by rw [(hf 95 (by omega)).2.1]; exact p5) (w_leT (by omega) (Nat.le_refl _) (w_some ⟨rfl, hf, ha, hg⟩))
    | succ d ih =>
      intro k y hk hf ha hg
      have hkl : k < l := by omega
      obtain ⟨w1, w2⟩ := hw k hkl
      have hps := psn_lt (w := w) hs k (fun j hj => (hw j (by omega)).1)
      obtain ⟨x, hx⟩ : ∃ x, x = z.2.1 94 (16 * b + k) := ⟨_, rfl⟩
      have ex : y.2.1 94 (16 * b + k) = x := by rw [(hf 94 (by omega)).2.1, hx]
      rw [← hx] at w2
      have eab : (if 0 ≤ x then x else 0 - x) - 1 = nI (w k) := by
        cases hl : lp k with
        | true =>
          rw [hl] at w2
          have w2 : x = nI (w k + 1) := w2
          rw [w2, if_pos (nI_pos' (by omega))]
          exact nI_pred _
        | false =>
          rw [hl] at w2
          have w2 : x = -1 - nI (w k) := w2
          rw [w2, if_neg (Int32.not_le.mpr (neg_lt (by omega))), i32_b]
          have := nI_pred (w k)
          rw [nI_succ] at this
          exact this
      have xpos : x ≤ 0 ↔ lp k = false := by
        cases hl : lp k with
        | true =>
          rw [hl] at w2
          have w2 : x = nI (w k + 1) := w2
          rw [w2]
          exact ⟨fun h9 => absurd h9 (nI_nle (by omega) (by omega)), fun h9 => by cases h9⟩
        | false =>
          rw [hl] at w2
          have w2 : x = -1 - nI (w k) := w2
          rw [w2]
          exact ⟨fun _ => rfl, fun _ => Int32.le_of_lt (neg_lt (by omega))⟩
      have c7 : ∀ (x5 x6 : Int32) (y2 : ow_MS), fr (fun g => 3001 ≤ g ∧ g ≤ 3006) z y2 → rn_At y2 3000 A (B ++ rnL w lp s (k + 1)) → rn_sg y2 3000 (A.flatten ++ (B ++ rnL w lp s (k + 1))) (fun i => !lp i) → Tt (fun K i9 => q_X13_run K i9 7 (nI b) (nI s) (nI (psn w s (k + 1))) (nI k) x5 x6 0 0 0 y2) Q := by
        intro x5 x6 y2 hf2 hb2 hs2
        refine u_X13_run_7 ?_; unfold qm_X13_run_7
        rw [nI_1]
        exact ih (k + 1) y2 (by omega) hf2 hb2 hs2
      have c2 : onL w s k → Tt (fun K i9 => q_X13_run K i9 2 (nI b) (nI s) (nI (psn w s k)) (nI k) x (nI (w k)) 0 0 0 y) Q := by
        intro hon
        have c6 : ∀ (t0 : Int32) (y2 : ow_MS), t0 = (if (!lp k) = true then -1 else 1) → fr (fun g => 3001 ≤ g ∧ g ≤ 3006) z y2 → y2.2.1 3006 = y.2.1 3006 → rn_At y2 3000 A (B ++ rnL w lp s (k + 1)) → Tt (fun K i9 => q_X13_run K i9 6 (nI b) (nI s) (nI (psn w s k)) (nI k) x (nI (w k)) t0 (nI k) 0 y2) Q := by
          intro t0 y2 ht0 hf2 e6 hb2
          refine u_X13_run_6 ?_; unfold qm_X13_run_6
          refine w_wrI (pl6 pn3) rfl (by omega) ?_
          have ep : 2 * nI (w k) + 1 - nI (psn w s k) = nI (psn w s (k + 1)) := by
            rw [rn_mul2, nI_1, pk_sub (by rcases hon with h9 | h9 <;> omega)]
            congr 1
            show _ = sw2 (w k) (w k + 1) (psn w s k)
            unfold sw2
            rcases hon with h9 | h9
            · rw [if_pos h9]; omega
            · rw [if_neg (by omega), if_pos h9]; omega
          rw [ep]
          refine c7 _ _ _ (fr_I2 hf2 (by omega)) (fr_At (P := fun g => g = 3006) (fr_I rfl) (fun g hg => by omega) hb2) (fun p hp => ?_)
          show (usI y2 3006 k t0).2.1 3006 p.1 = if (!lp p.1) = true then -1 else 1
          by_cases hpk : p.1 = k
          · rw [hpk, po_usI_at]
            exact ht0
          · rw [po_usI_ne hpk, e6]
            refine hg p ?_
            rw [rnL_on hon, ← List.append_assoc, ← List.append_assoc] at hp
            rcases List.mem_append.mp hp with h9 | h9
            · rw [List.append_assoc] at h9
              exact h9
            · rw [List.mem_singleton.mp h9] at hpk
              exact absurd rfl hpk
        have c5 : ∀ (t0 : Int32), t0 = nI (ubn w lp s k) → Tt (fun K i9 => q_X13_run K i9 5 (nI b) (nI s) (nI (psn w s k)) (nI k) x (nI (w k)) t0 (nI k) 0 y) Q := by
          intro t0 ht0
          rw [ht0]
          have hle := rnL_le (w := w) (lp := lp) (s := s) (l - k) k
          rw [show k + (l - k) = l by omega] at hle
          refine u_X13_run_5 ?_; unfold qm_X13_run_5
          refine w_cs0 (tn_add (x := k) (u := ubn w lp s k) pn3 ha (by rw [← List.append_assoc, List.length_append]; omega)) (fun y2 ⟨g1, g2⟩ => ?_)
          have hf2 : fr (fun g => 3001 ≤ g ∧ g ≤ 3006) z y2 := fr_tr hf (fr_mono (fun g hg => by omega) g2)
          have e6 : y2.2.1 3006 = y.2.1 3006 := (g2 3006 (by omega)).2.1
          rw [List.append_assoc, ← rnL_on hon] at g1
          refine w_if (fun h9 => c6 _ y2 ?_ hf2 e6 g1) (fun h9 => c6 _ y2 ?_ hf2 e6 g1)
          · rw [xpos.mp h9]
            rfl
          · cases hl : lp k with
            | true => rfl
            | false => exact absurd (xpos.mpr hl) h9
        have c3 : ∀ (eqb : Bool), decide (psn w s k = w k) = eqb → Tt (fun K i9 => q_X13_run K i9 3 (nI b) (nI s) (nI (psn w s k)) (nI k) x (nI (w k)) (bZ eqb) (nI k) 0 y) Q := by
          intro eqb heq
          have eu : ubn w lp s k = if eqb = lp k then 0 else 1 := by
            unfold ubn
            rw [heq]
          have c4 : ∀ (pb : Bool), lp k = pb → Tt (fun K i9 => q_X13_run K i9 4 (nI b) (nI s) (nI (psn w s k)) (nI k) x (nI (w k)) (bZ pb) (bZ eqb) (nI k) y) Q := by
            intro pb hpb
            rw [hpb] at eu
            refine u_X13_run_4 ?_; unfold qm_X13_run_4
            refine w_if (fun h9 => c5 0 ?_) (fun h9 => c5 1 ?_)
            · have : eqb = pb := by
                cases eqb <;> cases pb <;> first | rfl | exact absurd h9 (by decide)
              rw [eu, if_pos this]
              rfl
            · have : eqb ≠ pb := fun e => h9 (by rw [e])
              rw [eu, if_neg this]
              rfl
          refine u_X13_run_3 ?_; unfold qm_X13_run_3
          refine w_if (fun h9 => c4 false (xpos.mp h9)) (fun h9 => c4 true ?_)
          cases hl : lp k with
          | true => rfl
          | false => exact absurd (xpos.mpr hl) h9
        refine u_X13_run_2 ?_; unfold qm_X13_run_2
        exact w_eqN (by omega) (by omega) (fun h9 => c3 true (decide_eq_true h9)) (fun h9 => c3 false (decide_eq_false h9))
      refine u_X13_run_1 ?_; unfold qm_X13_run_1
      rw [show (16 : Int32) * nI b = nI (16 * b) from pk_mul 16 b, nI_add]
      refine w_rdI ml95 rfl (by omega) (x := nI l) (by rw [(hf 95 (by omega)).2.1]; exact p5) (w_leF (by omega) (by omega) (w_rdI ml94 rfl (by omega) ex ?_))
      rw [eab, nI_1]
      refine w_eqN (by omega) (by omega) (fun h9 => c2 (Or.inl h9)) (fun h9 => w_eqN (by omega) (by omega) (fun h8 => c2 (Or.inr h8)) (fun h8 => ?_))
      have hnon : ¬ onL w s k := fun h7 => h7.elim h9 h8
      obtain ⟨er, ep⟩ := rnL_off (lp := lp) hnon
      rw [← ep]
      exact c7 _ _ y hf (by rw [er]; exact ha) (by rw [er]; exact hg)
  refine e_X13_run ?_
  refine u_X13_run_0 ?_; unfold qm_X13_run_0
  refine key l 0 z (by omega) fr_rf ?_ ?_
  · show rn_At z 3000 A (B ++ [])
    rw [List.append_nil]
    exact hA
  · show rn_sg z 3000 (A.flatten ++ (B ++ [])) _
    rw [List.append_nil]
    exact hG
theorem xr_close {b n l : Nat} {w : Nat → Nat} {lp : Nat → Bool} (hb : b < 20) (hB : hBr z b n l) (hw : ltX 94 z b n l w lp) : Te (fun K => qe_X13_close K (nI b) z) (fun z1 => fr frK z z1 ∧ ∃ Rs, clQ w n l Rs ∧ Rs.length ≤ n ∧ (∀ s, s < n → s ∈ Rs.flatten) ∧ rn_At z1 3000 (rgS w lp l Rs) [] ∧ rn_sg z1 3000 (rgS w lp l Rs).flatten (fun i => !lp i)) := by
  have p1 := hB.1
  have p2 := hB.2.1
  have p3 := hB.2.2.1
  have hwn : ∀ i, i < l → w i + 1 < n := fun i hi => (hw i hi).1
  let Q : ow_MS → Prop := fun z1 => fr frK z z1 ∧ ∃ Rs, clQ w n l Rs ∧ Rs.length ≤ n ∧ (∀ s, s < n → s ∈ Rs.flatten) ∧ rn_At z1 3000 (rgS w lp l Rs) [] ∧ rn_sg z1 3000 (rgS w lp l Rs).flatten (fun i => !lp i)
  have bY : ∀ {y : ow_MS}, fr frK z y → hBr y b n l := fun hf => hBr_fr hf (by unfold frK; omega) (by unfold frK; omega) (by unfold frK; omega) hB
  have wY : ∀ {y : ow_MS}, fr frK z y → ltX 94 y b n l w lp := fun hf i hi => ⟨(hw i hi).1, by rw [(hf 94 (by unfold frK; omega)).2.1]; exact (hw i hi).2⟩
  have l2 : ∀ (k j : Nat) (Rs : List (List Nat)) (y : ow_MS), j + k = n → Rs.length ≤ j → fr frK z y → clQ w n l Rs → fD y n (fun s => s ∈ Rs.flatten) → (∀ s, s < j → s ∈ Rs.flatten) → rn_At y 3000 (rgS w lp l Rs) [] → rn_sg y 3000 (rgS w lp l Rs).flatten (fun i => !lp i) → Tt (fun K i => q_X13_close K i 2 (nI b) (nI j) 0 y) Q := by
    intro k
    induction k with
    | zero =>
      intro j Rs y hj hq hf hcl hfd hall ha hg
      refine u_X13_close_2 ?_; unfold qm_X13_close_2
      exact w_rdI ml96 rfl (by omega) (bY hf).2.2.2.1 (w_leT (by omega) (by omega) (w_some ⟨hf, Rs, hcl, by omega, fun s hs => hall s (by omega), ha, hg⟩))
    | succ k ih =>
      intro j Rs y hj hq hf hcl hfd hall ha hg
      have hjn : j < n := by omega
      have c4 : ∀ (Rs2 : List (List Nat)) (y2 : ow_MS), Rs2.length ≤ j + 1 → fr frK z y2 → clQ w n l Rs2 → fD y2 n (fun s => s ∈ Rs2.flatten) → (∀ s, s < j + 1 → s ∈ Rs2.flatten) → rn_At y2 3000 (rgS w lp l Rs2) [] → rn_sg y2 3000 (rgS w lp l Rs2).flatten (fun i => !lp i) → Tt (fun K i => q_X13_close K i 4 (nI b) (nI j) 0 y2) Q := by
        intro Rs2 y2 hq2 hf2 hcl2 hfd2 hall2 ha2 hg2
        refine u_X13_close_4 ?_; unfold qm_X13_close_4
        rw [nI_1]
        exact ih (j + 1) Rs2 y2 (by omega) hq2 hf2 hcl2 hfd2 hall2 ha2 hg2
      have l3 : ∀ (d a : Nat) (R : List Nat) (y : ow_MS), R.length + d = n → opR (fun s => psn w s l) j R a → (Rs.flatten ++ R).Nodup → (∀ s, s ∈ R → s < n) → a < n → a ∉ Rs.flatten ++ R → fr frK z y → fD y n (fun s => s ∈ Rs.flatten ++ R) → rn_At y 3000 (rgS w lp l Rs) (R.flatMap (fun s => rnL w lp s l)) → rn_sg y 3000 ((rgS w lp l Rs).flatten ++ R.flatMap (fun s => rnL w lp s l)) (fun i => !lp i) → Tt (fun K i => q_X13_close K i 3 (nI b) (nI j) (nI a) y) Q := by
        intro d
        induction d with
        | zero =>
          intro a R y ht hop hnd hRn han hno hf hfd ha hg
          exfalso
          have nd : (a :: R).Nodup := List.nodup_cons.mpr ⟨fun h9 => hno (List.mem_append_right _ h9), (List.nodup_append.mp hnd).2.1⟩
          have := nodup_le _ (List.range n) nd (fun s hs => by
            rcases List.mem_cons.mp hs with h9 | h9
            · rw [h9]
              exact List.mem_range.mpr han
            · exact List.mem_range.mpr (hRn s h9))
          rw [List.length_cons, List.length_range] at this
          omega
        | succ d ihd =>
          intro a R y ht hop hnd hRn han hno hf hfd ha hg
          have f1 : fr (fun g => g = 120) y (usI y 120 a (vp_nar .boolean 1)) := fr_I rfl
          have hf1 : fr frK z (usI y 120 a (vp_nar .boolean 1)) := fr_tr hf (fr_mono (fun g hg => Or.inl hg) f1)
          have nd2 : (Rs.flatten ++ (R ++ [a])).Nodup := by
            rw [← List.append_assoc]
            refine List.nodup_append.mpr ⟨hnd, List.nodup_cons.mpr ⟨List.not_mem_nil, List.nodup_nil⟩, fun s hs t ht9 e => ?_⟩
            rw [List.mem_singleton.mp ht9] at e
            rw [e] at hs
            exact hno hs
          have hlen := fmR_len (w := w) (lp := lp) (l := l) nd2
          rw [List.flatMap_append, List.flatMap_append, ← rgS_fl, List.length_append, List.length_append, List.flatMap_cons, List.flatMap_nil, List.append_nil] at hlen
          refine u_X13_close_3 ?_; unfold qm_X13_close_3
          refine w_wrZ ml120 rfl (by omega) (w_cs1 (xr_run hb (bY hf1) (wY hf1) han (fr_At (P := fun g => g = 120) f1 (fun g hg => by omega) ha) (fun p hp => by
            rw [po_usI_ot (by decide)]
            exact hg p hp) (by rw [List.length_append]; omega)) (fun v y2 ⟨r1, r2, r3, r4⟩ => ?_))
          have r1 : v = nI (psn w a l) := r1
          have r2 : fr (fun g => 3001 ≤ g ∧ g ≤ 3006) (usI y 120 a (vp_nar .boolean 1)) y2 := r2
          have hf2 : fr frK z y2 := fr_tr hf1 (fr_mono (fun g hg => Or.inr hg) r2)
          have hal : psn w a l < n := psn_lt han l hwn
          have eF : (R ++ [a]).flatMap (fun s => rnL w lp s l) = R.flatMap (fun s => rnL w lp s l) ++ rnL w lp a l := by
            rw [List.flatMap_append, List.flatMap_cons, List.flatMap_nil, List.append_nil]
          have r3 : rn_At y2 3000 (rgS w lp l Rs) ((R ++ [a]).flatMap (fun s => rnL w lp s l)) := by rw [eF]; exact r3
          have r4 : rn_sg y2 3000 ((rgS w lp l Rs).flatten ++ (R ++ [a]).flatMap (fun s => rnL w lp s l)) (fun i => !lp i) := by rw [eF]; exact r4
          have hop2 := opR_snoc hop
          have hop2 : opR (fun s => psn w s l) j (R ++ [a]) (psn w a l) := hop2
          have hRn2 : ∀ s, s ∈ R ++ [a] → s < n := fun s hs => by
            rcases List.mem_append.mp hs with h9 | h9
            · exact hRn s h9
            · rw [List.mem_singleton.mp h9]
              exact han
          have hfd2 : fD y2 n (fun s => s ∈ Rs.flatten ++ (R ++ [a])) := by
            intro s hs
            rw [(r2 120 (by omega)).2.1]
            by_cases hsa : s = a
            · exact Or.inl ⟨by rw [hsa]; exact po_usI_at, by rw [hsa]; simp⟩
            · rw [po_usI_ne hsa]
              rcases hfd s hs with ⟨g1, g2⟩ | ⟨g1, g2⟩
              · refine Or.inl ⟨g1, ?_⟩
                rw [← List.append_assoc]
                exact List.mem_append_left _ g2
              · refine Or.inr ⟨g1, fun h9 => ?_⟩
                rw [← List.append_assoc] at h9
                rcases List.mem_append.mp h9 with h8 | h8
                · exact g2 h8
                · exact hsa (List.mem_singleton.mp h8)
          rw [r1]
          refine w_eqN (by omega) (by omega) (fun hret => w_cs0 (tn_end pn3 r3 (by unfold rgS; rw [List.length_map]; omega)) (fun y3 ⟨k1, k2⟩ => ?_)) (fun hret => ihd (psn w a l) (R ++ [a]) y2 (by rw [List.length_append]; show R.length + 1 + d = n; omega) hop2 nd2 hRn2 hal (fun h9 => ?_) hf2 hfd2 r3 r4)
          · have eR : rgS w lp l Rs ++ [(R ++ [a]).flatMap (fun s => rnL w lp s l)] = rgS w lp l (Rs ++ [R ++ [a]]) := by
              unfold rgS
              rw [List.map_append]
              rfl
            have eFl : (Rs ++ [R ++ [a]]).flatten = Rs.flatten ++ (R ++ [a]) := by
              rw [List.flatten_append, List.flatten_cons, List.flatten_nil, List.append_nil]
            rw [eR] at k1
            rw [hret] at hop2
            refine c4 (Rs ++ [R ++ [a]]) y3 (by rw [List.length_append]; show Rs.length + 1 ≤ _; omega) (fr_tr hf2 (fr_mono (fun g hg => Or.inr (by omega)) k2)) ⟨by rw [eFl]; exact nd2, fun s hs => ?_, fun R' hR' => ?_⟩ (fun s hs => by rw [eFl, (k2 120 (by omega)).2.1]; exact hfd2 s hs) (fun s hs => ?_) k1 (fun p hp => ?_)
            · rw [eFl] at hs
              rcases List.mem_append.mp hs with h9 | h9
              · exact hcl.2.1 s h9
              · exact hRn2 s h9
            · rcases List.mem_append.mp hR' with h9 | h9
              · exact hcl.2.2 R' h9
              · rw [List.mem_singleton.mp h9]
                exact ⟨by simp, j, hop2⟩
            · rw [eFl]
              by_cases hsj : s = j
              · refine List.mem_append_right _ ?_
                rw [hsj]
                cases R with
                | nil =>
                  rw [hop.2.2.1 rfl]
                  exact List.mem_singleton.mpr rfl
                | cons r R' =>
                  rw [hop.2.2.2 r R' rfl]
                  simp
              · exact List.mem_append_left _ (hall s (by omega))
            · rw [(k2 3006 (by omega)).2.1]
              refine r4 p ?_
              rw [← eR, List.flatten_append, List.flatten_cons, List.flatten_nil, List.append_nil] at hp
              exact hp
          · rcases List.mem_append.mp h9 with h8 | h8
            · exact hno (List.mem_append_left _ (clQ_pre hcl h8))
            · obtain ⟨c, c1, c2⟩ := opR_pre hop2 h8 hret
              have ec : c = a := psn_inj l c2
              -- its predecessor in the row is not the last one
              obtain ⟨X1, Y1, e1⟩ := List.append_of_mem h8
              rcases List.eq_nil_or_concat X1 with q | ⟨X2, c3, q⟩
              · rw [q] at e1
                exact hret (hop2.2.2.2 _ _ e1)
              · rw [List.concat_eq_append] at q
                have e2 : R ++ [a] = X2 ++ c3 :: psn w a l :: Y1 := by rw [e1, q]; simp
                have e3 : c3 = a := psn_inj l (hop2.1 _ _ _ _ e2)
                rcases snoc2 e2 with ⟨-, q1, -⟩ | ⟨Y', -, q1⟩
                · exact hno (List.mem_append_right _ (by rw [q1, e3]; simp))
                · exact hno (List.mem_append_right _ (by rw [q1, e3]; simp))
      refine u_X13_close_2 ?_; unfold qm_X13_close_2
      refine w_rdI ml96 rfl (by omega) (bY hf).2.2.2.1 (w_leF (by omega) (by omega) (w_rdI ml120 rfl (by omega) rfl ?_))
      rcases hfd j hjn with ⟨g1, g2⟩ | ⟨g1, g2⟩
      · refine w_ifF (by rw [g1]; decide) (c4 Rs y (by omega) hf hcl hfd (fun s hs => ?_) ha hg)
        by_cases hsj : s = j
        · rw [hsj]; exact g2
        · exact hall s (by omega)
      · refine w_ifT g1 (l3 n j [] y (by show 0 + n = n; omega) opR_nil (by rw [List.append_nil]; exact hcl.1) (fun s hs => (by cases hs)) hjn (by rw [List.append_nil]; exact g2) hf (fun s hs => by rw [List.append_nil]; exact hfd s hs) ha (by
          show rn_sg y 3000 ((rgS w lp l Rs).flatten ++ []) _
          rw [List.append_nil]
          exact hg))
  have l1 : ∀ (k j : Nat) (y : ow_MS), j + k = 5 → fr frK z y → rn_At y 3000 [] [] → (∀ s, s < j → y.2.1 120 s = 0) → Tt (fun K i => q_X13_close K i 1 (nI b) (nI j) 0 y) Q := by
    intro k
    induction k with
    | zero =>
      intro j y hj hf ha h0
      refine u_X13_close_1 ?_; unfold qm_X13_close_1
      refine w_leT (a := 5) (by omega) (by omega) (l2 n 0 [] y (by omega) (Nat.le_refl _) hf ⟨List.nodup_nil, fun s hs => (by cases hs), fun R hR => (by cases hR)⟩ (fun s hs => Or.inr ⟨h0 s (by omega), fun h9 => (by cases h9)⟩) (fun s hs => by omega) ha (fun p hp => (by cases hp)))
    | succ k ih =>
      intro j y hj hf ha h0
      refine u_X13_close_1 ?_; unfold qm_X13_close_1
      rw [nI_1]
      refine w_leF (a := 5) (by omega) (by omega) (w_wrZ ml120 rfl (by omega) (ih (j + 1) _ (by omega) (fr_I2 hf (Or.inl rfl)) (fr_At (P := fun g => g = 120) (fr_I rfl) (fun g hg => by omega) ha) (fun s hs => ?_)))
      by_cases hsj : s = j
      · rw [hsj]
        exact po_usI_at
      · exact rd_ne hsj (h0 s (by omega))
  refine e_X13_close ?_
  refine u_X13_close_0 ?_; unfold qm_X13_close_0
  exact w_cs0 (tn_clear pn3) (fun y ⟨g1, g2⟩ => l1 5 0 y (by omega) (fr_mono (fun g hg => Or.inr (by omega)) g2) g1 (fun s hs => by omega))
end XRC
end
section
/-! 99zzzzzzzzzzm.xcl4 -/
/-! closed braids are plane: faces by columns -/
/-- the visit at v comes in at the lesser place -/
def rsg (lp : Nat → Bool) (v : Nat) : Bool := decide (v % 2 = 0) == lp (v / 2)
def otp (w : Nat → Nat) (lp : Nat → Bool) (v : Nat) : Nat := if rsg lp v = true then w (v / 2) + 1 else w (v / 2)
def inp (w : Nat → Nat) (lp : Nat → Bool) (v : Nat) : Nat := if rsg lp v = true then w (v / 2) else w (v / 2) + 1
/-- letters of column K - 1 before t -/
def cnK (w : Nat → Nat) (K : Nat) : Nat → Nat
  | 0 => 0
  | t + 1 => cnK w K t + if w t + 1 = K then 1 else 0
def fLb (w : Nat → Nat) (l K t s : Nat) : Nat := 2 * (64 * K + cnK w K t % cnK w K l) + if cnK w K l = 0 then s else 0
def tch (w : Nat → Nat) (p j : Nat) : Prop := w j = p ∨ w j + 1 = p
def nxG (w : Nat → Nat) (lp : Nat → Bool) (l : Nat) (v v' : Nat) : Prop := v' < 2 * l ∧ inp w lp v' = otp w lp v ∧ ((v / 2 < v' / 2 ∧ ∀ j, v / 2 < j → j < v' / 2 → ¬ tch w (otp w lp v) j) ∨ ((∀ j, v / 2 < j → j < l → ¬ tch w (otp w lp v) j) ∧ ∀ j, j < v' / 2 → ¬ tch w (otp w lp v) j))
section PCL
variable {w : Nat → Nat} {lp : Nat → Bool} {l n s : Nat}
theorem rnL_lt : ∀ i, (rnL w lp s i).Pairwise (fun p q => p.1 < q.1)
  | 0 => List.Pairwise.nil
  | i + 1 => by
    by_cases h : onL w s i
    · rw [rnL_on h]
      refine List.pairwise_append.mpr ⟨rnL_lt i, List.pairwise_singleton _ _, fun p hp q hq => ?_⟩
      rw [List.mem_singleton.mp hq]
      exact (rnL_mem.mp hp).1
    · rw [(rnL_off (lp := lp) h).1]
      exact rnL_lt i
theorem psn_stay {a : Nat} : ∀ d, (∀ j, a ≤ j → j < a + d → ¬ onL w s j) → psn w s (a + d) = psn w s a
  | 0, _ => rfl
  | d + 1, h => by
    rw [← psn_stay d (fun j h1 h2 => h j h1 (by omega))]
    exact (rnL_off (lp := fun _ => true) (h (a + d) (by omega) (by omega))).2
theorem ubn_rsg {i : Nat} (h : onL w s i) : rsg lp (lb (i, ubn w lp s i)) = decide (psn w s i = w i) := by
  have u := ubn_lt (w := w) (lp := lp) (s := s) (i := i)
  unfold rsg lb
  rw [show (2 * (i, ubn w lp s i).1 + (i, ubn w lp s i).2) / 2 = i by show (2 * i + ubn w lp s i) / 2 = i; omega, show (2 * (i, ubn w lp s i).1 + (i, ubn w lp s i).2) % 2 = ubn w lp s i by show (2 * i + ubn w lp s i) % 2 = _; omega]
  unfold ubn
  cases decide (psn w s i = w i) <;> cases lp i <;> rfl
theorem lb_half {i : Nat} : lb (i, ubn w lp s i) / 2 = i := by
  have u := ubn_lt (w := w) (lp := lp) (s := s) (i := i)
  show (2 * i + ubn w lp s i) / 2 = i
  omega
theorem otp_s {i : Nat} (h : onL w s i) : otp w lp (lb (i, ubn w lp s i)) = psn w s (i + 1) ∧ inp w lp (lb (i, ubn w lp s i)) = psn w s i := by
  unfold otp inp
  rw [ubn_rsg h, lb_half]
  have e : psn w s (i + 1) = sw2 (w i) (w i + 1) (psn w s i) := rfl
  rw [e]
  unfold sw2
  by_cases h1 : psn w s i = w i
  · rw [decide_eq_true h1, if_pos rfl, if_pos rfl, if_pos h1]
    exact ⟨rfl, h1.symm⟩
  · have h2 : psn w s i = w i + 1 := h.resolve_left h1
    rw [decide_eq_false h1, if_neg h1, if_pos h2]
    exact ⟨rfl, h2.symm⟩
theorem off_tch {a : Nat} {d : Nat} (h : ∀ j, a ≤ j → j < a + d → ¬ onL w s j) {j : Nat} (h1 : a ≤ j) (h2 : j < a + d) : ¬ tch w (psn w s a) j := fun h9 => by
  have e := psn_stay (w := w) (s := s) (a := a) (j - a) (fun k k1 k2 => h k k1 (by omega))
  rw [show a + (j - a) = j by omega] at e
  refine h j h1 h2 ?_
  unfold onL
  rw [e]
  exact h9.imp Eq.symm Eq.symm
theorem cl_nxG {S : ow_NP} (hw : ∀ i, i < l → w i + 1 < n) (hJ : clJ w lp n l n S) {v : Nat} (hv : v < 2 * l) : nxG w lp l v (S.1 v) := by
  obtain ⟨s, hs, hm⟩ := rnL_all (lp := lp) hw (p := (v / 2, v % 2)) (by show v / 2 < l; omega) (by show v % 2 < 2; omega)
  obtain ⟨-, m2, m3⟩ := rnL_mem.mp hm
  have m2 : onL w s (v / 2) := m2
  have m3 : v % 2 = ubn w lp s (v / 2) := m3
  have ev : lb (v / 2, ubn w lp s (v / 2)) = v := by
    show 2 * (v / 2) + ubn w lp s (v / 2) = v
    omega
  have ev2 : lb (v / 2, v % 2) = v := by
    show 2 * (v / 2) + v % 2 = v
    omega
  have hout := (otp_s (lp := lp) m2).1
  rw [ev] at hout
  obtain ⟨X, Y, eL⟩ := List.append_of_mem hm
  have srt := rnL_lt (w := w) (lp := lp) (s := s) l
  rw [eL] at srt
  have sX := (List.pairwise_append.mp srt).2.2
  have sY := List.pairwise_cons.mp (List.pairwise_append.mp srt).2.1
  -- letters behind, with the strand
  have behind : ∀ j, v / 2 < j → j < l → onL w s j → (j, ubn w lp s j) ∈ Y := fun j h1 h2 h3 => by
    have : (j, ubn w lp s j) ∈ rnL w lp s l := rnL_mem.mpr ⟨h2, h3, rfl⟩
    rw [eL] at this
    rcases List.mem_append.mp this with h9 | h9
    · have := sX _ h9 _ List.mem_cons_self
      have this : j < v / 2 := this
      omega
    · rcases List.mem_cons.mp h9 with h8 | h8
      · have := congrArg Prod.fst h8
        have this : j = v / 2 := this
        omega
      · exact h8
  cases Y with
  | cons q Y' =>
    have e1 := hJ.1 s hs X _ q Y' eL
    rw [ev2] at e1
    have hq : q ∈ rnL w lp s l := by rw [eL]; simp
    obtain ⟨q1, q2, q3⟩ := rnL_mem.mp hq
    have eq : q = (q.1, ubn w lp s q.1) := Prod.ext rfl q3
    have e2 : S.1 v = lb (q.1, ubn w lp s q.1) := by rw [e1, ← eq]
    have hq2 : v / 2 < q.1 := sY.1 q List.mem_cons_self
    have u := ubn_lt (w := w) (lp := lp) (s := s) (i := q.1)
    have no : ∀ j, v / 2 + 1 ≤ j → j < v / 2 + 1 + (q.1 - (v / 2 + 1)) → ¬ onL w s j := fun j h1 h2 h3 => by
      rcases List.mem_cons.mp (behind j (by omega) (by omega) h3) with h9 | h9
      · have := congrArg Prod.fst h9
        have this : j = q.1 := this
        omega
      · have := (List.pairwise_cons.mp sY.2).1 _ h9
        have this : q.1 < j := this
        omega
    have est := psn_stay (w := w) (s := s) (a := v / 2 + 1) (q.1 - (v / 2 + 1)) no
    rw [show v / 2 + 1 + (q.1 - (v / 2 + 1)) = q.1 by omega] at est
    rw [e2]
    refine ⟨by show 2 * q.1 + ubn w lp s q.1 < 2 * l; omega, ?_, Or.inl ⟨by rw [lb_half]; exact hq2, fun j h1 h2 => ?_⟩⟩
    · rw [(otp_s q2).2, hout, est]
    · rw [lb_half] at h2
      rw [hout]
      exact off_tch no (by omega) (by omega)
  | nil =>
    have hwl : psn w s l < n := psn_lt hs l hw
    obtain ⟨q, Z, e1, e2⟩ := hJ.2 s hs hwl X _ eL
    rw [ev2] at e2
    obtain ⟨s', hs'⟩ : ∃ s', s' = psn w s l := ⟨_, rfl⟩
    rw [← hs'] at e1
    have hq : q ∈ rnL w lp s' l := by rw [e1]; exact List.mem_cons_self
    obtain ⟨q1, q2, q3⟩ := rnL_mem.mp hq
    have eq : q = (q.1, ubn w lp s' q.1) := Prod.ext rfl q3
    have e3 : S.1 v = lb (q.1, ubn w lp s' q.1) := by rw [e2, ← eq]
    have u := ubn_lt (w := w) (lp := lp) (s := s') (i := q.1)
    have no : ∀ j, v / 2 + 1 ≤ j → j < v / 2 + 1 + (l - (v / 2 + 1)) → ¬ onL w s j := fun j h1 h2 h3 => by
      have := behind j (by omega) (by omega) h3
      cases this
    have est := psn_stay (w := w) (s := s) (a := v / 2 + 1) (l - (v / 2 + 1)) no
    rw [show v / 2 + 1 + (l - (v / 2 + 1)) = l by omega] at est
    have srt2 := rnL_lt (w := w) (lp := lp) (s := s') l
    rw [e1] at srt2
    have no2 : ∀ j, 0 ≤ j → j < 0 + q.1 → ¬ onL w s' j := fun j _ h2 h3 => by
      have : (j, ubn w lp s' j) ∈ rnL w lp s' l := rnL_mem.mpr ⟨by show j < l; omega, h3, rfl⟩
      rw [e1] at this
      rcases List.mem_cons.mp this with h9 | h9
      · have := congrArg Prod.fst h9
        have this : j = q.1 := this
        omega
      · have := (List.pairwise_cons.mp srt2).1 _ h9
        have this : q.1 < j := this
        omega
    have est2 := psn_stay (w := w) (s := s') (a := 0) q.1 no2
    rw [Nat.zero_add] at est2
    have est2 : psn w s' q.1 = s' := est2
    rw [e3]
    refine ⟨by show 2 * q.1 + ubn w lp s' q.1 < 2 * l; omega, ?_, Or.inr ⟨fun j h1 h2 => ?_, fun j h2 => ?_⟩⟩
    · rw [(otp_s q2).2, hout, est2, hs', est]
    · rw [hout]
      exact off_tch no (by omega) (by omega)
    · rw [lb_half] at h2
      have h9 := off_tch no2 (j := j) (by omega) (by omega)
      have h9 : ¬ tch w s' j := h9
      rw [hout, ← est, ← hs']
      exact h9
theorem cnK_le : ∀ {K t d : Nat}, cnK w K t ≤ cnK w K (t + d)
  | K, t, 0 => Nat.le_refl _
  | K, t, d + 1 => by
    have := cnK_le (K := K) (t := t) (d := d)
    show _ ≤ cnK w K (t + d) + _
    omega
theorem cnK_mono {K t u : Nat} (h : t ≤ u) : cnK w K t ≤ cnK w K u := by
  have := cnK_le (w := w) (K := K) (t := t) (d := u - t)
  rw [show t + (u - t) = u by omega] at this
  exact this
theorem cnK_stay {K t : Nat} : ∀ d, (∀ j, t ≤ j → j < t + d → w j + 1 ≠ K) → cnK w K (t + d) = cnK w K t
  | 0, _ => rfl
  | d + 1, h => by
    show cnK w K (t + d) + (if w (t + d) + 1 = K then 1 else 0) = _
    rw [if_neg (h (t + d) (by omega) (by omega)), cnK_stay d (fun j h1 h2 => h j h1 (by omega))]
    rfl
theorem cnK_b : ∀ {K t : Nat}, cnK w K t ≤ t
  | K, 0 => Nat.le_refl _
  | K, t + 1 => by
    have := cnK_b (K := K) (t := t)
    show cnK w K t + (if w t + 1 = K then 1 else 0) ≤ t + 1
    split <;> omega
theorem cnK_s {t : Nat} : cnK w (w t + 1) (t + 1) = cnK w (w t + 1) t + 1 := by
  show cnK w (w t + 1) t + (if w t + 1 = w t + 1 then 1 else 0) = _
  rw [if_pos rfl]
theorem cnK_pos {t : Nat} (h : t < l) : 0 < cnK w (w t + 1) l := by
  have h1 := cnK_mono (w := w) (K := w t + 1) (t := t + 1) (u := l) (by omega)
  rw [cnK_s] at h1
  omega
theorem cnK_ex : ∀ {K t : Nat}, 0 < cnK w K t → ∃ j, j < t ∧ w j + 1 = K
  | K, 0, h => absurd h (Nat.lt_irrefl _)
  | K, t + 1, h => by
    by_cases e : w t + 1 = K
    · exact ⟨t, by omega, e⟩
    · have h : 0 < cnK w K t + (if w t + 1 = K then 1 else 0) := h
      rw [if_neg e] at h
      obtain ⟨j, h1, h2⟩ := cnK_ex (K := K) (t := t) h
      exact ⟨j, by omega, h2⟩
/-- along a gap the places in the columns at its sides are the same -/
theorem nxG_c {v v' K : Nat} (hv : v < 2 * l) (h : nxG w lp l v v') (hK : K = otp w lp v ∨ K = otp w lp v + 1) : cnK w K (v / 2 + 1) % cnK w K l = cnK w K (v' / 2) % cnK w K l := by
  obtain ⟨h1, -, h3⟩ := h
  have nt : ∀ j, ¬ tch w (otp w lp v) j → w j + 1 ≠ K := fun j hj e => hj (by
    unfold tch
    rcases hK with e2 | e2
    · exact Or.inr (by omega)
    · exact Or.inl (by omega))
  rcases h3 with ⟨h4, h5⟩ | ⟨h4, h5⟩
  · have e := cnK_stay (w := w) (K := K) (t := v / 2 + 1) (v' / 2 - (v / 2 + 1)) (fun j a1 a2 => nt j (h5 j (by omega) (by omega)))
    rw [show v / 2 + 1 + (v' / 2 - (v / 2 + 1)) = v' / 2 by omega] at e
    rw [e]
  · have e := cnK_stay (w := w) (K := K) (t := v / 2 + 1) (l - (v / 2 + 1)) (fun j a1 a2 => nt j (h4 j (by omega) (by omega)))
    rw [show v / 2 + 1 + (l - (v / 2 + 1)) = l by omega] at e
    have e2 := cnK_stay (w := w) (K := K) (t := 0) (v' / 2) (fun j a1 a2 => nt j (h5 j (by omega)))
    rw [Nat.zero_add] at e2
    have e2 : cnK w K (v' / 2) = 0 := e2
    rw [← e, e2, Nat.mod_self, Nat.zero_mod]
theorem fLb_s {K t s s' : Nat} (h : 0 < cnK w K l) : fLb w l K t s = fLb w l K t s' := by
  unfold fLb
  rw [if_neg (by omega), if_neg (by omega)]
theorem fLb_t {K t t' s : Nat} (h : cnK w K t % cnK w K l = cnK w K t' % cnK w K l) : fLb w l K t s = fLb w l K t' s := by
  unfold fLb
  rw [h]
def fDt (w : Nat → Nat) (lp : Nat → Bool) (l d : Nat) : Nat := if d % 2 = 0 then fLb w l (otp w lp (d / 2)) (d / 4 + 1) 1 else fLb w l (inp w lp (d / 2) + 1) (d / 4) 0
theorem rsg_mt (v : Nat) : rsg lp (mt v) = !rsg lp v := by
  unfold rsg
  rw [mt_half]
  have : decide (mt v % 2 = 0) = !decide (v % 2 = 0) := by
    unfold mt
    by_cases h : v % 2 = 0
    · rw [if_pos h, decide_eq_true h, decide_eq_false (by omega)]
      rfl
    · rw [if_neg h, decide_eq_false h, decide_eq_true (by omega)]
      rfl
  rw [this]
  cases decide (v % 2 = 0) <;> cases lp (v / 2) <;> rfl
theorem otp_mt (v : Nat) : otp w lp (mt v) = inp w lp v ∧ inp w lp (mt v) = otp w lp v := by
  unfold otp inp
  rw [rsg_mt, mt_half]
  cases rsg lp v
  · exact ⟨rfl, rfl⟩
  · exact ⟨rfl, rfl⟩
theorem cnK_ne {K t : Nat} (h : w t + 1 ≠ K) : cnK w K (t + 1) = cnK w K t := by
  show cnK w K t + (if w t + 1 = K then 1 else 0) = _
  rw [if_neg h]
  rfl
theorem fDt_in {v : Nat} (hv : v < 2 * l) : fDt w lp l (pn_rt (rsg lp) (2 * v + 1)) = fLb w l (inp w lp v) (v / 2) 1 := by
  obtain ⟨m1, m2⟩ := otp_mt (w := w) (lp := lp) v
  have mh := mt_half v
  unfold pn_rt
  rw [show (2 * v + 1) / 2 = v by omega, show (2 * v + 1) % 2 = 1 by omega]
  cases e : rsg lp v with
  | true =>
    rw [if_pos (by decide)]
    unfold fDt
    rw [if_pos (by omega), show 2 * mt v / 2 = mt v by omega, show 2 * mt v / 4 = v / 2 by omega, m1]
    refine fLb_t ?_
    have : inp w lp v = w (v / 2) := by unfold inp; rw [e]; rfl
    rw [cnK_ne (by omega)]
  | false =>
    rw [if_neg (by decide)]
    unfold fDt
    rw [if_neg (by omega), show (2 * mt v + 1) / 2 = mt v by omega, show (2 * mt v + 1) / 4 = v / 2 by omega, m2]
    have e1 : otp w lp v = w (v / 2) := by unfold otp; rw [e]; rfl
    have e2 : inp w lp v = w (v / 2) + 1 := by unfold inp; rw [e]; rfl
    rw [e1, e2]
    exact fLb_s (cnK_pos (by omega))
theorem fDt_out {v : Nat} (hv : v < 2 * l) : fDt w lp l (pn_rt (rsg lp) (2 * v)) = fLb w l (otp w lp v + 1) (v / 2 + 1) 0 := by
  obtain ⟨m1, m2⟩ := otp_mt (w := w) (lp := lp) v
  have mh := mt_half v
  unfold pn_rt
  rw [show 2 * v / 2 = v by omega, show 2 * v % 2 = 0 by omega]
  cases e : rsg lp v with
  | true =>
    rw [if_neg (by decide)]
    unfold fDt
    rw [if_neg (by omega), show (2 * mt v + 1) / 2 = mt v by omega, show (2 * mt v + 1) / 4 = v / 2 by omega, m2]
    refine fLb_t ?_
    have e1 : otp w lp v = w (v / 2) + 1 := by unfold otp; rw [e]; rfl
    rw [cnK_ne (by omega)]
  | false =>
    rw [if_pos (by decide)]
    unfold fDt
    rw [if_pos (by omega), show 2 * mt v / 2 = mt v by omega, show 2 * mt v / 4 = v / 2 by omega, m1]
    have e1 : otp w lp v = w (v / 2) := by unfold otp; rw [e]; rfl
    have e2 : inp w lp v = w (v / 2) + 1 := by unfold inp; rw [e]; rfl
    rw [e1, e2]
    exact fLb_s (cnK_pos (by omega))
theorem fDt_ph {S : ow_NP} (hv : vn l S) (hG : ∀ v, v < 2 * l → nxG w lp l v (S.1 v)) {d : Nat} (hd : d < 4 * l) : fDt w lp l (pn_ph S (rsg lp) d) = fDt w lp l d := by
  unfold pn_ph pn_al
  by_cases e : d % 2 = 0
  · rw [if_pos e]
    have hg := hG (d / 2) (by omega)
    rw [fDt_in hg.1, hg.2.1]
    unfold fDt
    rw [if_pos e]
    have := nxG_c (by omega) hg (Or.inl rfl)
    rw [show d / 2 / 2 = d / 4 by omega] at this
    exact (fLb_t this).symm
  · rw [if_neg e]
    obtain ⟨a1, a2, a3, a4⟩ := hv (d / 2) (by omega)
    have hg := hG (S.2 (d / 2)) a2
    have hc := nxG_c a2 hg (Or.inr rfl)
    have h2 := hg.2.1
    rw [a4] at hc h2
    rw [fDt_out a2]
    unfold fDt
    rw [if_neg e, h2, show d / 4 = d / 2 / 2 by omega]
    exact fLb_t hc
/-- letters at one place reach one another -/
theorem pl_reach {S : ow_NP} (hv : vn l S) (hG : ∀ v, v < 2 * l → nxG w lp l v (S.1 v)) {p : Nat} : ∀ (d i j : Nat), j ≤ i + d → i < j → j < l → tch w p i → tch w p j → rch l S (2 * i) (2 * j)
  | 0, i, j, h1, h2, _, _, _ => by omega
  | d + 1, i, j, h1, h2, h3, h4, h5 => by
    -- the visit that leaves letter i at p
    have hm : ∀ u, u < 2 * l → rch l S (2 * (u / 2)) u ∧ rch l S u (2 * (u / 2)) := fun u hu => by
      rcases (show u = 2 * (u / 2) ∨ u = 2 * (u / 2) + 1 by omega) with e | e
      · rw [← e]
        exact ⟨rch_rf _ _ _, rch_rf _ _ _⟩
      · have m1 : mt (2 * (u / 2)) = u := by rw [mt_ev]; omega
        have m2 : mt u = 2 * (u / 2) := by rw [← m1, mt_mt, m1]
        have r1 := rch_m (rch_rf l S (2 * (u / 2))) (by omega)
        have r2 := rch_m (rch_rf l S u) hu
        rw [m1] at r1
        rw [m2] at r2
        exact ⟨r1, r2⟩
    obtain ⟨v, v1, v2⟩ : ∃ v, v / 2 = i ∧ otp w lp v = p := by
      have o1 : otp w lp (2 * i) = p ∨ otp w lp (2 * i + 1) = p := by
        have e1 : 2 * i / 2 = i := by omega
        have e2 : (2 * i + 1) / 2 = i := by omega
        have r : rsg lp (2 * i + 1) = !rsg lp (2 * i) := by rw [← mt_ev]; exact rsg_mt _
        unfold otp
        rw [e1, e2, r]
        cases rsg lp (2 * i)
        · rcases h4 with h9 | h9
          · exact Or.inl h9
          · exact Or.inr h9
        · rcases h4 with h9 | h9
          · exact Or.inr h9
          · exact Or.inl h9
      rcases o1 with o1 | o1
      · exact ⟨2 * i, by omega, o1⟩
      · exact ⟨2 * i + 1, by omega, o1⟩
    have hvl : v < 2 * l := by omega
    obtain ⟨g1, g2, g3⟩ := hG v hvl
    rw [v2] at g2 g3
    rcases g3 with ⟨g4, g5⟩ | ⟨g4, -⟩
    · have hle : S.1 v / 2 ≤ j := by
        apply Classical.byContradiction
        intro h9
        exact g5 j (by omega) (by omega) h5
      have r1 := rch_tr (hm v hvl).1 (rch_n (rch_rf l S v) hvl)
      rw [v1] at r1
      have r2 := rch_tr r1 (hm _ g1).2
      by_cases ej : S.1 v / 2 = j
      · rw [ej] at r2
        exact r2
      · have ti : tch w p (S.1 v / 2) := by
          unfold inp at g2
          unfold tch
          cases e : rsg lp (S.1 v)
          · rw [e] at g2
            exact Or.inr g2
          · rw [e] at g2
            exact Or.inl g2
        exact rch_tr r2 (pl_reach hv hG d (S.1 v / 2) j (by omega) (by omega) h3 ti h5)
    · exact absurd h5 (g4 j (by omega) h3)
theorem pl_reach2 {S : ow_NP} (hv : vn l S) (hG : ∀ v, v < 2 * l → nxG w lp l v (S.1 v)) {p i j : Nat} (hi : i < l) (hj : j < l) (h4 : tch w p i) (h5 : tch w p j) : rch l S (2 * i) (2 * j) := by
  rcases Nat.lt_trichotomy i j with h | h | h
  · exact pl_reach hv hG l i j (by omega) h hj h4 h5
  · rw [h]
    exact rch_rf _ _ _
  · exact rch_sy hv (by omega) (pl_reach hv hG l j i (by omega) h hi h5 h4)
def upK (w : Nat → Nat) (l k : Nat) : Bool := decide (0 < cnK w (k + 1) l) && decide (cnK w k l = 0)
def dnK (w : Nat → Nat) (l k : Nat) : Bool := decide (cnK w (k + 1) l = 0) && decide (0 < cnK w k l)
theorem updn (h0 : cnK w 0 l = 0) : ∀ n, cntB (upK w l) n = cntB (dnK w l) n + if 0 < cnK w n l then 1 else 0
  | 0 => by rw [h0]; rfl
  | n + 1 => by
    have ih := updn h0 n
    show cntB (upK w l) n + (if upK w l n = true then 1 else 0) = cntB (dnK w l) n + (if dnK w l n = true then 1 else 0) + _
    have eu : upK w l n = (decide (0 < cnK w (n + 1) l) && decide (cnK w n l = 0)) := rfl
    have ed : dnK w l n = (decide (cnK w (n + 1) l = 0) && decide (0 < cnK w n l)) := rfl
    rw [eu, ed]
    by_cases a : 0 < cnK w n l <;> by_cases b : 0 < cnK w (n + 1) l
    · rw [if_pos a] at ih
      rw [if_pos b, decide_eq_false (show ¬ cnK w n l = 0 by omega), decide_eq_false (show ¬ cnK w (n + 1) l = 0 by omega), Bool.and_false, Bool.false_and]
      show _ + 0 = _ + 0 + 1
      omega
    · rw [if_pos a] at ih
      rw [if_neg b, decide_eq_false (show ¬ cnK w n l = 0 by omega), decide_eq_true (show cnK w (n + 1) l = 0 by omega), decide_eq_true a, Bool.and_false]
      show _ + 0 = _ + 1 + 0
      omega
    · rw [if_neg a] at ih
      rw [if_pos b, decide_eq_true (show cnK w n l = 0 by omega), decide_eq_true b, decide_eq_false (show ¬ cnK w (n + 1) l = 0 by omega), Bool.false_and]
      show _ + 1 = _ + 0 + 1
      omega
    · rw [if_neg a] at ih
      rw [if_neg b, decide_eq_false b, decide_eq_false a, Bool.false_and, Bool.and_false]
      show _ + 0 = _ + 0 + 0
      omega
theorem cn0 : ∀ t, cnK w 0 t = 0
  | 0 => rfl
  | t + 1 => by rw [cnK_ne (by omega)]; exact cn0 t
/-- a letter of a column -/
noncomputable def ltK (w : Nat → Nat) (l K : Nat) : Nat := if h : ∃ j, j < l ∧ w j + 1 = K then h.choose else 0
theorem ltK_ok {K : Nat} (h : 0 < cnK w K l) : ltK w l K < l ∧ w (ltK w l K) + 1 = K := by
  have h1 := cnK_ex h
  unfold ltK
  rw [dif_pos h1]
  exact h1.choose_spec
/-- the visits of a letter: rising, falling -/
def rsV (lp : Nat → Bool) (i : Nat) : Nat := 2 * i + if lp i = true then 0 else 1
def flV (lp : Nat → Bool) (i : Nat) : Nat := 2 * i + if lp i = true then 1 else 0
theorem rsV_ok (i : Nat) : rsV lp i / 2 = i ∧ rsg lp (rsV lp i) = true := by
  have h : rsV lp i / 2 = i := by
    unfold rsV
    split <;> omega
  refine ⟨h, ?_⟩
  unfold rsg
  rw [h]
  unfold rsV
  cases lp i
  · rw [show (2 * i + if false = true then 0 else 1) = 2 * i + 1 from rfl, decide_eq_false (by omega)]
    rfl
  · rw [show (2 * i + if true = true then 0 else 1) = 2 * i from rfl, decide_eq_true (by omega)]
    rfl
theorem flV_ok (i : Nat) : flV lp i / 2 = i ∧ rsg lp (flV lp i) = false := by
  have h : flV lp i / 2 = i := by
    unfold flV
    split <;> omega
  refine ⟨h, ?_⟩
  unfold rsg
  rw [h]
  unfold flV
  cases lp i
  · rw [show (2 * i + if false = true then 1 else 0) = 2 * i from rfl, decide_eq_true (by omega)]
    rfl
  · rw [show (2 * i + if true = true then 1 else 0) = 2 * i + 1 from rfl, decide_eq_false (by omega)]
    rfl
theorem lab1 (i : Nat) : fDt w lp l (2 * rsV lp i) = fLb w l (w i + 1) (i + 1) 1 := by
  obtain ⟨h1, h2⟩ := rsV_ok (lp := lp) i
  unfold fDt otp
  rw [if_pos (by omega), show 2 * rsV lp i / 2 = rsV lp i by omega, show 2 * rsV lp i / 4 = i by omega, h2, if_pos rfl, h1]
theorem lab2 (i : Nat) : fDt w lp l (2 * flV lp i) = fLb w l (w i) (i + 1) 1 := by
  obtain ⟨h1, h2⟩ := flV_ok (lp := lp) i
  unfold fDt otp
  rw [if_pos (by omega), show 2 * flV lp i / 2 = flV lp i by omega, show 2 * flV lp i / 4 = i by omega, h2, if_neg (by decide), h1]
theorem lab3 (i : Nat) : fDt w lp l (2 * flV lp i + 1) = fLb w l (w i + 2) i 0 := by
  obtain ⟨h1, h2⟩ := flV_ok (lp := lp) i
  unfold fDt inp
  rw [if_neg (by omega), show (2 * flV lp i + 1) / 2 = flV lp i by omega, show (2 * flV lp i + 1) / 4 = i by omega, h2, if_neg (by decide), h1]
theorem fLb_0 {K t s : Nat} (ht : t ≤ l) (h : cnK w K l = 0) : fLb w l K t s = 128 * K + s := by
  have := cnK_mono (w := w) (K := K) ht
  unfold fLb
  rw [if_pos h, show cnK w K t = 0 by omega, Nat.zero_mod]
  omega
theorem fLb_1 {K t s : Nat} (h : 0 < cnK w K l) (hl : l ≤ 16) : fLb w l K t s = 128 * K + 2 * (cnK w K t % cnK w K l) ∧ cnK w K t % cnK w K l < 17 := by
  have h1 := Nat.mod_lt (cnK w K t) h
  have h2 := cnK_b (w := w) (K := K) (t := l)
  unfold fLb
  rw [if_neg (by omega)]
  omega
theorem lab1_i (hl : l ≤ 16) {i j : Nat} (hi : i < j) (hj : j < l) : fLb w l (w i + 1) (i + 1) 1 ≠ fLb w l (w j + 1) (j + 1) 1 := fun e => by
  obtain ⟨a1, a2⟩ := fLb_1 (t := i + 1) (s := 1) (cnK_pos (w := w) (show i < l by omega)) hl
  obtain ⟨b1, b2⟩ := fLb_1 (t := j + 1) (s := 1) (cnK_pos (w := w) hj) hl
  rw [a1, b1] at e
  have eK : w i + 1 = w j + 1 := by omega
  have e2 : cnK w (w i + 1) (i + 1) % cnK w (w i + 1) l = cnK w (w j + 1) (j + 1) % cnK w (w j + 1) l := by omega
  rw [← eK] at e2
  have c1 := cnK_s (w := w) (t := i)
  have c2 := cnK_s (w := w) (t := j)
  rw [← eK] at c2
  have c3 := cnK_mono (w := w) (K := w i + 1) (t := i + 1) (u := j) (by omega)
  have c4 := cnK_mono (w := w) (K := w i + 1) (t := j + 1) (u := l) (by omega)
  rw [Nat.mod_eq_of_lt (show cnK w (w i + 1) (i + 1) < cnK w (w i + 1) l by omega)] at e2
  by_cases h : cnK w (w i + 1) (j + 1) = cnK w (w i + 1) l
  · rw [h, Nat.mod_self] at e2
    omega
  · rw [Nat.mod_eq_of_lt (by omega)] at e2
    omega
theorem cl_plane {S : ow_NP} (hl : l ≤ 16) (hw : ∀ i, i < l → w i + 1 < n) (hv : vn l S) (hG : ∀ v, v < 2 * l → nxG w lp l v (S.1 v)) : pn_pl l S (rsg lp) := by
  have up : ∀ k, k ∈ (List.range n).filter (upK w l) → 0 < cnK w (k + 1) l ∧ cnK w k l = 0 := fun k hk => by
    have := (List.mem_filter.mp hk).2
    unfold upK at this
    have := Bool.and_eq_true_iff.mp this
    exact ⟨of_decide_eq_true this.1, of_decide_eq_true this.2⟩
  have dn : ∀ k, k ∈ (List.range n).filter (dnK w l) → cnK w (k + 1) l = 0 ∧ 0 < cnK w k l := fun k hk => by
    have := (List.mem_filter.mp hk).2
    unfold dnK at this
    have := Bool.and_eq_true_iff.mp this
    exact ⟨of_decide_eq_true this.1, of_decide_eq_true this.2⟩
  have n0 : cnK w n l = 0 := by
    have := cnK_stay (w := w) (K := n) (t := 0) l (fun j h1 h2 => by have := hw j (by omega); omega)
    rw [Nat.zero_add] at this
    exact this
  have hcnt := updn (w := w) (l := l) (cn0 l) n
  rw [n0, if_neg (by omega), cntB_fl, cntB_fl] at hcnt
  let g1 : Nat → Nat := fun i => 2 * rsV lp i
  let g2 : Nat → Nat := fun k => 2 * flV lp (ltK w l (k + 1))
  let g3 : Nat → Nat := fun k => 2 * flV lp (ltK w l k) + 1
  have L1 : ∀ i, fDt w lp l (g1 i) = fLb w l (w i + 1) (i + 1) 1 := fun i => lab1 i
  have L2 : ∀ k, k ∈ (List.range n).filter (upK w l) → fDt w lp l (g2 k) = 128 * k + 1 ∧ g2 k < 4 * l := fun k hk => by
    obtain ⟨u1, u2⟩ := up k hk
    obtain ⟨a1, a2⟩ := ltK_ok u1
    have f := (flV_ok (lp := lp) (ltK w l (k + 1))).1
    refine ⟨?_, by show 2 * flV lp (ltK w l (k + 1)) < _; omega⟩
    show fDt w lp l (2 * flV lp (ltK w l (k + 1))) = _
    rw [lab2, show w (ltK w l (k + 1)) = k by omega]
    exact fLb_0 (by omega) u2
  have L3 : ∀ k, k ∈ (List.range n).filter (dnK w l) → fDt w lp l (g3 k) = 128 * (k + 1) ∧ g3 k < 4 * l := fun k hk => by
    obtain ⟨u1, u2⟩ := dn k hk
    obtain ⟨a1, a2⟩ := ltK_ok u2
    have f := (flV_ok (lp := lp) (ltK w l k)).1
    refine ⟨?_, by show 2 * flV lp (ltK w l k) + 1 < _; omega⟩
    show fDt w lp l (2 * flV lp (ltK w l k) + 1) = _
    rw [lab3, show w (ltK w l k) + 2 = k + 1 by omega]
    exact fLb_0 (by omega) u1
  have L4 : ∀ i, i < l → ∃ K x, fDt w lp l (g1 i) = 128 * K + 2 * x ∧ x < 17 ∧ 0 < cnK w K l := fun i hi => by
    obtain ⟨a1, a2⟩ := fLb_1 (t := i + 1) (s := 1) (cnK_pos (w := w) hi) hl
    exact ⟨w i + 1, _, (L1 i).trans a1, a2, cnK_pos hi⟩
  refine ⟨((List.range n).filter (upK w l)).map (fun k => 2 * ltK w l (k + 1)), fun v hvl => ?_, fDt w lp l, (List.range l).map g1 ++ (((List.range n).filter (upK w l)).map g2 ++ ((List.range n).filter (dnK w l)).map g3), fun d hd => fDt_ph hv hG hd, fun x hx => ?_, ?_, ?_⟩
  · -- every letter is reached
    have key : ∀ K i, i < l → w i + 1 = K → ∃ r, r ∈ ((List.range n).filter (upK w l)).map (fun k => 2 * ltK w l (k + 1)) ∧ r < 2 * l ∧ rch l S r (2 * i) := by
      intro K
      induction K with
      | zero => intro i hi e; omega
      | succ k ih =>
        intro i hi e
        have hp : 0 < cnK w (k + 1) l := by rw [← e]; exact cnK_pos hi
        have hwi := hw i hi
        by_cases h0 : cnK w k l = 0
        · obtain ⟨a1, a2⟩ := ltK_ok hp
          refine ⟨2 * ltK w l (k + 1), List.mem_map.mpr ⟨k, List.mem_filter.mpr ⟨List.mem_range.mpr (by omega), ?_⟩, rfl⟩, by omega, pl_reach2 (p := k) hv hG a1 hi (Or.inl (by omega)) (Or.inl (by omega))⟩
          unfold upK
          rw [decide_eq_true hp, decide_eq_true h0]
          rfl
        · obtain ⟨j, j1, j2⟩ := cnK_ex (show 0 < cnK w k l by omega)
          obtain ⟨r, r1, r2, r3⟩ := ih j j1 j2
          exact ⟨r, r1, r2, rch_tr r3 (pl_reach2 (p := k) hv hG j1 hi (Or.inr j2) (Or.inl (by omega)))⟩
    obtain ⟨r, r1, r2, r3⟩ := key _ (v / 2) (by omega) rfl
    refine ⟨r, r1, r2, rch_tr r3 ?_⟩
    rcases (show v = 2 * (v / 2) ∨ v = 2 * (v / 2) + 1 by omega) with e | e
    · rw [← e]
      exact rch_rf _ _ _
    · have r4 := rch_m (rch_rf l S (2 * (v / 2))) (by omega)
      rw [mt_ev, ← e] at r4
      exact r4
  · rcases List.mem_append.mp hx with h9 | h9
    · obtain ⟨i, hi, rfl⟩ := List.mem_map.mp h9
      have := List.mem_range.mp hi
      have f := (rsV_ok (lp := lp) i).1
      show 2 * rsV lp i < _
      omega
    · rcases List.mem_append.mp h9 with h8 | h8
      · obtain ⟨k, hk, rfl⟩ := List.mem_map.mp h8
        exact (L2 k hk).2
      · obtain ⟨k, hk, rfl⟩ := List.mem_map.mp h8
        exact (L3 k hk).2
  · unfold pm_dv
    rw [List.map_append, List.map_append, List.map_map, List.map_map, List.map_map]
    have ndr : ∀ q : Nat → Bool, ((List.range n).filter q).Nodup := fun q => List.nodup_range.filter _
    refine List.nodup_append.mpr ⟨nodup_map List.nodup_range (fun i j hi hj e => ?_), List.nodup_append.mpr ⟨nodup_map (ndr _) (fun i j hi hj e => ?_), nodup_map (ndr _) (fun i j hi hj e => ?_), fun a ha b hb e => ?_⟩, fun a ha b hb e => ?_⟩
    · have hi := List.mem_range.mp hi
      have hj := List.mem_range.mp hj
      have e : fDt w lp l (g1 i) = fDt w lp l (g1 j) := e
      rw [L1, L1] at e
      rcases Nat.lt_trichotomy i j with q | q | q
      · exact absurd e (lab1_i hl q hj)
      · exact q
      · exact absurd e.symm (lab1_i hl q hi)
    · have e : fDt w lp l (g2 i) = fDt w lp l (g2 j) := e
      rw [(L2 i hi).1, (L2 j hj).1] at e
      omega
    · have e : fDt w lp l (g3 i) = fDt w lp l (g3 j) := e
      rw [(L3 i hi).1, (L3 j hj).1] at e
      omega
    · obtain ⟨i, hi, e1⟩ := List.mem_map.mp ha
      obtain ⟨j, hj, e2⟩ := List.mem_map.mp hb
      have e1 : fDt w lp l (g2 i) = a := e1
      have e2 : fDt w lp l (g3 j) = b := e2
      rw [(L2 i hi).1] at e1
      rw [(L3 j hj).1] at e2
      omega
    · obtain ⟨i, hi, e1⟩ := List.mem_map.mp ha
      have e1 : fDt w lp l (g1 i) = a := e1
      obtain ⟨K, x, k1, k2, k3⟩ := L4 i (List.mem_range.mp hi)
      rw [k1] at e1
      rcases List.mem_append.mp hb with h9 | h9
      · obtain ⟨j, hj, e2⟩ := List.mem_map.mp h9
        have e2 : fDt w lp l (g2 j) = b := e2
        rw [(L2 j hj).1] at e2
        omega
      · obtain ⟨j, hj, e2⟩ := List.mem_map.mp h9
        have e2 : fDt w lp l (g3 j) = b := e2
        rw [(L3 j hj).1] at e2
        have : K = j + 1 := by omega
        rw [this, (dn j hj).1] at k3
        omega
  · rw [List.length_append, List.length_append, List.length_map, List.length_map, List.length_map, List.length_map, List.length_range]
    omega
end PCL
end
section
/-! 99zzzzzzzzzzn.xcl5 -/
/-! both sides: closure -/
section ICL
variable {w : Nat → Nat} {lp : Nat → Bool} {n : Nat} {T : ow_NT} {Rs : List (List Nat)}
theorem pn_pl_b {c : Nat} {S : ow_NP} {b b' : Nat → Bool} (hv : vn c S) (e : ∀ v, v < 2 * c → b' v = b v) (h : pn_pl c S b) : pn_pl c S b' := by
  obtain ⟨R, h1, f, X, h2, h3⟩ := h
  refine ⟨R, h1, f, X, fun d hd => ?_, h3⟩
  have : pn_ph S b' d = pn_ph S b d := by
    have := pn_al_lt hv hd
    unfold pn_ph pn_rt
    rw [e (pn_al S d / 2) (by omega)]
  rw [this]
  exact h2 d hd
theorem cl_ok {l : Nat} (hw : ∀ i, i < l → w i + 1 < n) (hQ : clQ w n l Rs) (hall : ∀ s, s < n → s ∈ Rs.flatten) : okF (rgS w lp l Rs).flatten l := by
  rw [rgS_fl]
  refine ⟨fmR_nd hQ.1, fun p => ⟨fun hp => fmR_in hp, fun ⟨h1, h2⟩ => ?_⟩⟩
  obtain ⟨s, hs, hp⟩ := rnL_all (lp := lp) hw h1 h2
  exact List.mem_flatMap.mpr ⟨s, hall s hs, hp⟩
theorem cl_iso (hl : T.1 ≤ 12) (hv : vn T.1 T.2.2.1) (hw : ∀ i, i < T.1 → w i + 1 < n) (hJ : clJ w lp n T.1 n T.2.2.1) (hG : ∀ i, i < T.1 → T.2.2.2 i = if lp i = true then 1 else -1) (hci : T.2.1 = cntB (fun s => (rnL w lp s T.1).isEmpty) n) (hQ : clQ w n T.1 Rs) (hall : ∀ s, s < n → s ∈ Rs.flatten) : isoV (rgS w lp T.1 Rs) (fun i => !lp i) (fun x => x) T := by
  have ok := cl_ok (lp := lp) hw hQ hall
  refine isoV_of (isoS_iff.mp ⟨okF_wk (by omega) ok, okF_len ok, hl, fun p hp => ((ok.2 p).mp hp).1, fun p q _ _ e => e, fun L hL p hp => ?_, fun p hp => ?_, ?_⟩) hv
  · obtain ⟨R, hR, rfl⟩ := List.mem_map.mp hL
    obtain ⟨h1, j, h2⟩ := hQ.2.2 R hR
    have hin : ∀ s, s ∈ R → s < n := fun s hs => hQ.2.1 s (List.mem_flatten.mpr ⟨R, hR, hs⟩)
    have nd : R.Nodup := by
      have := hQ.1
      rw [List.nodup_iff_pairwise_ne, List.pairwise_flatten] at this
      exact this.1 R hR
    exact cl_shw h2 (fmR_nd nd) (fun s hs => hJ.1 s (hin s hs)) (fun s hs => hJ.2 s (hin s hs) (psn_lt (hin s hs) T.1 hw)) hp
  · have hx := ((ok.2 p).mp hp).1
    rw [hG _ hx]
    show _ ↔ (!lp p.1) = true
    cases lp p.1
    · exact ⟨fun _ => rfl, fun _ => by decide⟩
    · exact ⟨fun h9 => absurd h9 (by decide), fun h9 => by cases h9⟩
  · rw [hci]
    unfold rgS
    rw [cl_cirs (fun R hR => ?_)]
    · exact cnt_perm hQ.1 (fun s => ⟨fun h => hQ.2.1 s h, hall s⟩)
    · obtain ⟨h1, j, h2⟩ := hQ.2.2 R hR
      have nd : R.Nodup := by
        have := hQ.1
        rw [List.nodup_iff_pairwise_ne, List.pairwise_flatten] at this
        exact this.1 R hR
      exact ⟨j, h2, h1, nd⟩
theorem cl_pl (hl : T.1 ≤ 12) (hv : vn T.1 T.2.2.1) (hw : ∀ i, i < T.1 → w i + 1 < n) (hJ : clJ w lp n T.1 n T.2.2.1) (hG : ∀ i, i < T.1 → T.2.2.2 i = if lp i = true then 1 else -1) : pm1 T ∧ nt_plane T = true := by
  refine ⟨fun x hx => ?_, ?_⟩
  · rw [hG x hx]
    cases lp x
    · exact Or.inr rfl
    · exact Or.inl rfl
  · rw [plane_iff hv hl]
    refine pn_pl_b hv (fun v hvl => ?_) (cl_plane (by omega) hw hv (fun v hvl => cl_nxG hw hJ hvl))
    unfold stG rsg
    rw [hG (v / 2) (by omega)]
    cases lp (v / 2) <;> rfl
end ICL
section XCO
variable {X : (Nat → Nat → Int32) → Prop} {z y : ow_MS} {St : plT} {x : Int32} {vl : Nat → Nat}
theorem xq_closure {b n l : Nat} {w : Nat → Nat} {lp : Nat → Bool} (h : gI X z) (hR : relR z St) (hb : b < 20) (hB : hBr z b n l) (hw : ltX 94 z b n l w lp) : Te (fun K => qe_X13_closure K (nI b) z) (fun r => rFl X z 2 r ∧ 12 < l ∨ l ≤ 12 ∧ (rFl X z 3 r ∧ allF St ∨ ∃ e Rs z4, lstF St e ∧ clQ w n l Rs ∧ Rs.length ≤ n ∧ (∀ s, s < n → s ∈ Rs.flatten) ∧ fr (fun g => g = 1 ∨ frK g) z z4 ∧ rKp X z4 e (rgS w lp l Rs) (fun i => !lp i) r)) := by
  have h1 := gI_1 (c := 0) h
  have hR1 := relR_1 (c := 0) hR
  have p1 := hB.1
  have p2 := hB.2.1
  have p3 := hB.2.2.1
  refine e_X13_closure ?_; unfold qm_X13_closure_0
  refine w_wrF (w_hasBX h1.2.2.2.2.2.1 (fun h0 => ?_) (fun c n' l' hc hx hh => w_ifF (by decide) ?_))
  · have := h0 b hb rfl
    have e : (usF z 1 0).2.1 96 b = nI n := hB.2.2.2.1
    rw [e] at this
    exact absurd this (nI_ne0 (by omega) (by omega))
  · have ec : b = c := nI_inj9 (by omega) (by omega) hx
    subst ec
    have e5 : (usF z 1 0).2.1 95 b = nI l := hB.2.2.2.2.1
    refine w_rdI ml95 rfl (by omega) e5 (w_le (b := 12) (by omega) (by omega) (fun h12 => ?_) (fun h12 => w_mono (w_failX (k := 2) h1 fr_1) (fun r hr => Or.inl ⟨hr, h12⟩)))
    refine w_freeX hR1 (fun hall => w_ifT rfl (w_mono (w_failX (k := 3) h1 fr_1) (fun r hr => Or.inr ⟨h12, Or.inl ⟨hr, hall⟩⟩))) (fun f hf => w_ifF (rn_neg1 (by have := hf.1; omega)) ?_)
    have hB1 : hBr (usF z 1 0) b n l := hB
    refine w_cs0 (xr_close hb hB1 (w := w) (lp := lp) hw) ?_
    rintro z4 ⟨f4, Rs, k1, k2, k3, k4, k5⟩
    have hwn : ∀ i, i < l → w i + 1 < n := fun i hi => (hw i hi).1
    have ok := cl_ok (lp := lp) hwn k1 k3
    have hz1 : z4.1 1 = 0 := by
      rw [(f4 1 (by unfold frK; omega)).1]
      exact po_usF_at
    refine w_mono (w_keepX (z0 := z4) (sg2 := fun i => !lp i) (gI_fr f4 (fun g hg => by unfold frK at hg; unfold per; omega) h1) (relR_fr f4 (by unfold frK; omega) hR1) hf hz1 fr_rf k4 k5 (okF_wk (by omega) ok) (by rw [okF_len ok]; omega) (by unfold rgS; rw [List.length_map]; omega)) (fun r hr => Or.inr ⟨h12, Or.inr ⟨f, Rs, z4, hf, k1, k2, k3, ?_, hr⟩⟩)
    exact fr_tr (fr_F rfl |> fr_mono (P := fun g => g = 1) (fun g hg => Or.inl hg)) (fr_mono (fun g hg => Or.inr hg) f4)
theorem xq_closure0 (h : gI X z) (hn : noB (z.2.1 96) x) : Te (fun K => qe_X13_closure K x z) (fun r => rFl X z 1 r) := by
  have h1 := gI_1 (c := 0) h
  refine e_X13_closure ?_; unfold qm_X13_closure_0
  refine w_wrF (w_hasBX h1.2.2.2.2.2.1 (fun h0 => w_ifT rfl (w_failX (k := 1) h1 fr_1)) (fun c n' l' hc hx hh => ?_))
  have h9 := hn c hc hx
  have e : z.2.1 96 c = nI n' := hh.2.2.2.1
  have := hh.1
  have := hh.2.1
  rw [e] at h9
  exact absurd h9 (nI_ne0 (by omega) (by omega))
theorem xc_closure0 (hN : gN y) (hC : relC y St) (hB : brC y) (hn : noB (y.2.1 15) x) : Te (fun K => ce_X11_closure vl K 0 x y) (fun r => r.1 = 1 ∧ r.2.2 = y) := by
  refine e_X11_closure ?_; unfold cm_X11_closure_0
  refine w_tc0 (tc_needBraid (brC_E hB)) ?_ ?_
  · rintro y1 ⟨h1, rfl⟩
    rcases h1 with ⟨-, hb⟩ | h1
    · obtain ⟨b, n, l, hb20, rfl, hn2, hn5, e15, -⟩ := isB_w hB hb
      have := hn b hb20 rfl
      rw [e15] at this
      exact absurd this (nI_ne0 (by omega) (by omega))
    · exact absurd (show (0 : Nat) = 1 from h1.1) (by decide)
  · rintro a y1 ha ⟨h1, rfl⟩
    rcases h1 with h1 | h1
    · exact absurd h1.1 ha
    · exact w_some ⟨h1.1, rfl⟩
theorem xc_closure {b n l : Nat} {w : Nat → Nat} {lp : Nat → Bool} {Rs : List (List Nat)} (hN : gN y) (hC : relC y St) (hS : okS St) (hB : brC y) (hb : b < 20) (hn2 : 2 ≤ n) (hn5 : n ≤ 5) (h15 : y.2.1 15 b = nI n) (hl : l ≤ 16) (h14 : y.2.1 14 b = nI l) (hw : ltX 13 y b n l w lp) : Te (fun K => ce_X11_closure vl K 0 (nI b) y) (fun r => r.1 = 4 ∧ r.2.2 = y ∧ 12 < l ∨ l ≤ 12 ∧ (r.1 = 3 ∧ r.2.2 = y ∧ allF St ∨ r.1 = 0 ∧ ∃ e, lstF St e ∧ (clQ w n l Rs → (∀ s, s < n → s ∈ Rs.flatten) → cKp y e (rgS w lp l Rs) (fun i => !lp i) r.2))) := by
  have hwn : ∀ i, i < l → w i + 1 < n := fun i hi => (hw i hi).1
  refine e_X11_closure ?_; unfold cm_X11_closure_0
  refine w_tc0 (tc_needBraid (brC_E hB)) ?_ ?_
  · rintro y1 ⟨h1, rfl⟩
    refine w_crI ch_14 rfl hb h14 (w_le (b := 12) (by omega) (by omega) (fun h12 => ?_) (fun h12 => w_some (Or.inl ⟨rfl, rfl, h12⟩)))
    refine w_tc1 (xc_free hN.1 hC hS) ?_ ?_
    · rintro v y2 ⟨h2, rfl⟩
      rcases h2 with h2 | ⟨-, e, rfl, he⟩
      · exact absurd (show (0 : Nat) = 3 from h2.1) (by decide)
      · obtain ⟨T, t1, t2⟩ := hN.2.1 4000 nH4
        refine w_crI ch_14 rfl hb h14 (w_crI ch_15 rfl hb h15 ?_)
        rw [m16]
        refine w_cs0 (xc_close t1 t2 hb hn2 hn5 h12 hw) ?_
        rintro y3 ⟨⟨T1, g1, g2, g3, g4, g5, g6⟩, f3⟩
        have hN3 : gN y3 := gN_net nH4 f3 (fun g hg => by unfold clR cP at hg; omega) ⟨T1, g1, g2.2.2.1⟩ hN
        have f3u : fr uP y2 y3 := fr_mono (fun g hg => by unfold clR cP at hg; unfold uP; omega) f3
        refine w_cs1 (tc_keep hN3 he.1 g1 g2) ?_
        rintro r y4 ⟨q0, q1, q2, ⟨Cs, os, q3, q4⟩, q5, -⟩
        subst g3
        refine w_some (Or.inr ⟨h12, Or.inr ⟨rfl, e, he, fun hQ hall => ?_⟩⟩)
        obtain ⟨m1, m2⟩ := cl_pl h12 g2.1 hwn g5 g4
        exact ⟨q0, q1, fr_tr f3u q2, ⟨T1, _, Cs, os, g2, m1, cl_iso h12 g2.1 hwn g5 g4 g6 hQ hall, m2, q3, q4⟩, fun d' C' h1 h2 h3 => q5 d' C' h1 h2 (slC_fr f3 (fun q hq h9 => by unfold cW at hq; unfold clR cP at h9; omega) h3)⟩
    · rintro a v y2 ha ⟨h2, rfl⟩
      rcases h2 with h2 | h2
      · exact w_some (Or.inr ⟨h12, Or.inl ⟨h2.1, rfl, h2.2⟩⟩)
      · exact absurd h2.1 ha
  · rintro a y1 ha ⟨h1, rfl⟩
    rcases h1 with h1 | h1
    · exact absurd h1.1 ha
    · have := h1.2 b hb rfl
      rw [h15] at this
      exact absurd this (nI_ne0 (by omega) (by omega))
/-- both sides, with other frames -/
def bothF (em : List (Nat × Nat)) (X : (Nat → Nat → Int32) → Prop) (P : Nat → Prop) (z y : ow_MS) (rr : Int32 × ow_MS) (rc : Nat × Int32 × ow_MS) : Prop := (∃ St, rel1 X rr.2 rc.2.2 St) ∧ fr P z rr.2 ∧ fr uP y rc.2.2 ∧ ansI em rr rc
theorem ltX_of {b n l : Nat} (hz : hBr z b n l) (hb : b < 20) (h : relB z y) : ∃ w lp, ltX 94 z b n l w lp ∧ ltX 13 y b n l w lp ∧ y.2.1 15 b = nI n ∧ y.2.1 14 b = nI l := by
  obtain ⟨w, lp, hw⟩ := br_let hz
  have p1 := hz.1
  have p2 := hz.2.1
  obtain ⟨k1, k2⟩ := h b hb
  obtain ⟨k3, k4⟩ := k2 (by rw [hz.2.2.2.1]; exact nI_ne0 (by omega) (by omega))
  refine ⟨w, lp, hw, fun i hi => ⟨(hw i hi).1, ?_⟩, k1.symm.trans hz.2.2.2.1, k3.symm.trans hz.2.2.2.2.1⟩
  rw [← k4 l hz.2.2.1 hz.2.2.2.2.1 i hi]
  exact (hw i hi).2
theorem br_cs (hz : gI X z) (x : Int32) : noB (z.2.1 96) x ∨ ∃ b n l, b < 20 ∧ x = nI b ∧ hBr z b n l := by
  by_cases h : ∃ b n l, b < 20 ∧ x = nI b ∧ hBr z b n l
  · exact Or.inr h
  · refine Or.inl (fun b hb e => ?_)
    rcases gBr_h (hz.2.2.2.2.2.1 b hb) with e9 | ⟨n, l, hh⟩
    · exact e9
    · exact absurd ⟨b, n, l, hb, e, hh⟩ h
theorem b_closure (h : rel1 X z y St) (hB : brC y) (hb : relB z y) : Te (fun K => qe_X13_closure K x z) (fun rr => Te (fun K => ce_X11_closure vl K 0 x y) (fun rc => bothF [(1, 1), (2, 4), (3, 3)] X (fun g => g = 120 ∨ rPk g) z y rr rc)) := by
  have up : ∀ {rr rc}, bothI [(1, 1), (2, 4), (3, 3)] X z y rr rc → bothF [(1, 1), (2, 4), (3, 3)] X (fun g => g = 120 ∨ rPk g) z y rr rc := fun ⟨a1, a2, a3, a4⟩ => ⟨a1, fr_mono (fun g hg => Or.inr hg) a2, a3, a4⟩
  rcases br_cs h.1 x with hn | ⟨b, n, l, hb20, rfl, hh⟩
  · refine te_two (xq_closure0 h.1 hn) (xc_closure0 (St := St) h.2.1 h.2.2.2.1 hB (noB_iff hb hn)) (fun rr rc hr hc => up ?_)
    refine bo_fail h hr (by simp) hc.1 ?_ ?_ ?_
    · rw [hc.2]
      exact h.2.1
    · rw [hc.2]
      exact fr_rf
    · rw [hc.2]
      exact h.2.2.2.1
  · obtain ⟨w, lp, w1, w2, w3, w4⟩ := ltX_of hh hb20 hb
    refine w_monoE (xq_closure h.1 h.2.2.1 hb20 hh w1) (fun rr hr => ?_)
    have p1 := hh.1
    have p2 := hh.2.1
    have p3 := hh.2.2.1
    have same : ∀ {j k : Nat} {rc : Nat × Int32 × ow_MS}, rFl X z j rr → (j, k) ∈ [(1, 1), (2, 4), (3, 3)] → rc.1 = k → rc.2.2 = y → bothF [(1, 1), (2, 4), (3, 3)] X (fun g => g = 120 ∨ rPk g) z y rr rc := fun hf hm e1 e2 => up (bo_fail h hf hm e1 (by rw [e2]; exact h.2.1) (by rw [e2]; exact fr_rf) (by rw [e2]; exact h.2.2.2.1))
    rcases hr with ⟨r1, r2⟩ | ⟨r0, hr⟩
    · refine w_monoE (xc_closure (Rs := []) h.2.1 h.2.2.2.1 h.2.2.2.2 hB hb20 p1 p2 w3 p3 w4 w2) (fun rc hc => ?_)
      rcases hc with ⟨c1, c2, -⟩ | ⟨c1, -⟩
      · exact same r1 (by simp) c1 c2
      · omega
    · rcases hr with ⟨r1, r2⟩ | ⟨e, Rs, z4, r1, r2, r3, r4, r5, r6⟩
      · refine w_monoE (xc_closure (Rs := []) h.2.1 h.2.2.2.1 h.2.2.2.2 hB hb20 p1 p2 w3 p3 w4 w2) (fun rc hc => ?_)
        rcases hc with ⟨-, -, c3⟩ | ⟨-, hc⟩
        · omega
        · rcases hc with ⟨c1, c2, -⟩ | ⟨-, f, c1, -⟩
          · exact same r1 (by simp) c1 c2
          · exact (all_lst r2 c1).elim
      · refine w_monoE (xc_closure (Rs := Rs) h.2.1 h.2.2.2.1 h.2.2.2.2 hB hb20 p1 p2 w3 p3 w4 w2) (fun rc hc => ?_)
        rcases hc with ⟨-, -, c3⟩ | ⟨-, hc⟩
        · omega
        · rcases hc with ⟨-, -, c3⟩ | ⟨c0, f, c1, c2⟩
          · exact (all_lst c3 r1).elim
          · have hc := c2 r2 r4
            have ef := lst_uni2 c1 r1
            subst ef
            have hne : rgS w lp l Rs ≠ [] := fun e9 => by
              have h0 := r4 0 (by omega)
              unfold rgS at e9
              rw [List.map_eq_nil_iff.mp e9] at h0
              cases h0
            have hR4 : relR z4 St := relR_fr r5 (by unfold frK; omega) h.2.2.1
            obtain ⟨k1, A', sg', k2, k3, k4⟩ := kp_join h.2.1.1 h.2.2.2.1 hR4 h.2.2.2.2 c1 (by unfold rgS; rw [List.length_map]; omega) hne hc r6
            refine ⟨⟨_, r6.1, hc.2.1, k3, k2, k4⟩, fr_tr (fr_mono (fun g hg => ?_) r5) (fr_mono (fun g hg => Or.inr hg) r6.2.2.2.1), hc.2.2.1, Or.inl ⟨r6.2.2.1, c0, k1.symm⟩⟩
            rcases hg with hg | hg
            · exact Or.inr (Or.inl hg)
            · unfold frK at hg
              rcases hg with hg | hg
              · exact Or.inl hg
              · exact Or.inr (Or.inr (Or.inr (Or.inr (by omega))))
end XCO
/-! what rests on what: the handles that rel2 speaks of -/
def r2Z (g : Nat) : Prop := g = 10 ∨ g = 11 ∨ 20 ≤ g ∧ g ≤ 22 ∨ g = 35 ∨ g = 36 ∨ g = 39 ∨ 94 ≤ g ∧ g ≤ 96
def r2Y (g : Nat) : Prop := 13 ≤ g ∧ g ≤ 15 ∨ g = 11001 ∨ g = 11002 ∨ 2001 ≤ g ∧ g ≤ 3005
theorem rel2_h {P Q : Nat → Prop} {z z1 y y1 : ow_MS} (hz : fr P z z1) (hy : fr Q y y1) (h1 : ∀ g, P g → ¬ r2Z g) (h2 : ∀ g, Q g → ¬ r2Y g) (h : rel2 z y) : rel2 z1 y1 := by
  obtain ⟨k1, k2, k3, ⟨Ms, k4, k5, k6⟩, Ns, k7, k8, k9⟩ := h
  have no : ∀ g, r2Z g → ¬ P g := fun g g1 h9 => h1 g h9 g1
  have no2 : ∀ g, r2Y g → ¬ Q g := fun g g1 h9 => h2 g h9 g1
  refine ⟨relT_k hz hy ⟨no _ (by unfold r2Z; omega), no _ (by unfold r2Z; omega)⟩ ⟨no2 _ (by unfold r2Y; omega), no2 _ (by unfold r2Y; omega)⟩ k1, relB_k hz hy ⟨no _ (by unfold r2Z; omega), no _ (by unfold r2Z; omega), no _ (by unfold r2Z; omega)⟩ ⟨no2 _ (by unfold r2Y; omega), no2 _ (by unfold r2Y; omega), no2 _ (by unfold r2Y; omega)⟩ k2, brC_fr hy ⟨no2 _ (by unfold r2Y; omega), no2 _ (by unfold r2Y; omega), no2 _ (by unfold r2Y; omega)⟩ k3, ⟨Ms, rlR_k hz ⟨no _ (by unfold r2Z; omega), no _ (by unfold r2Z; omega), no _ (by unfold r2Z; omega)⟩ k4, rlC_k hy (fun q hq => no2 q (by unfold cV at hq; unfold r2Y; omega)) k5, k6⟩, Ns, rlR_k hz ⟨no _ (by unfold r2Z; omega), no _ (by unfold r2Z; omega), no _ (by unfold r2Z; omega)⟩ k7, rlC_k hy (fun q hq => no2 q (by unfold cV at hq; unfold r2Y; omega)) k8, k9⟩
theorem c_closure {X : (Nat → Nat → Int32) → Prop} {z y : ow_MS} {vl : Nat → Nat} {x : Int32} (h : rel3 X z y) : Te (fun K => qe_X13_closure K x z) (fun rr => Te (fun K => ce_X11_closure vl K 0 x y) (fun rc => rel3 X rr.2 rc.2.2 ∧ ansI [(1, 1), (2, 4), (3, 3)] rr rc)) := by
  obtain ⟨⟨St, k⟩, hM, h2⟩ := id h
  exact w_monoE (b_closure k h2.2.2.1 h2.2.1) (fun rr hr => w_monoE hr (fun rc ⟨⟨St', b1⟩, b2, b3, b4⟩ => ⟨⟨⟨St', b1⟩, gM_u3 b1.2.1 b3 hM, rel2_h b2 b3 (fun g hg h9 => by unfold rPk rSc at hg; unfold r2Z at h9; omega) (fun g hg h9 => by unfold uP at hg; unfold r2Y at h9; omega) h2⟩, b4⟩))
end
