/-! exact calls: figure, of both -/
section XF0
variable {A : rn_L} {sg : Nat → Bool} {f : Nat → Nat} {T : ow_NT} {m : Nat → Nat} {P : Nat}
theorem parts_cnt (hi : isoN A sg f T) (hv : vn T.1 T.2.2.1) (hk : mk A m P) : (np_parts T.1 T.2.2.1.1).2 + cirs A = P := by
  have hc := hi.2.2.1
  obtain ⟨p1, p2, p3, p4⟩ := parts_I hv hc
  let F := (np_parts T.1 T.2.2.1.1).1
  let n := (np_parts T.1 T.2.2.1.1).2
  have hex : ∀ r, r < n → ∃ v, v < A.flatten.length ∧ F (lbv A f v) = nI r := by
    intro r hr
    obtain ⟨k, k1, k2⟩ := p3 r hr
    obtain ⟨v, v1, v2⟩ := lbv_sur hi k1
    exact ⟨v, v1, by rw [v2]; exact k2⟩
  let vr : Nat → Nat := fun r => if h : ∃ v, v < A.flatten.length ∧ F (lbv A f v) = nI r then Classical.choose h else 0
  have hvr : ∀ r, r < n → vr r < A.flatten.length ∧ F (lbv A f (vr r)) = nI r := by
    intro r hr
    have h := hex r hr
    have e : vr r = Classical.choose h := dif_pos h
    rw [e]
    exact Classical.choose_spec h
  have hn31 : n < 2 ^ 31 := by
    have : n ≤ 2 * T.1 := p4
    omega
  have pm : ((List.range n).map (fun r => m (rn_c A (vr r)))).Perm ((List.range P).filter (fun p => !(pvl A m p A.flatten.length).isEmpty)) := by
    refine (List.perm_ext_iff_of_nodup (nodup_map List.nodup_range (fun a b ha hb e => ?_)) (nodup_filter List.nodup_range)).mpr (fun p => ?_)
    · have ha := List.mem_range.mp ha
      have hb := List.mem_range.mp hb
      have h1 := (part_iff hi hv hk (hvr a ha).1 (hvr b hb).1).mpr e
      have h2 : nI a = nI b := by
        rw [← (hvr a ha).2, ← (hvr b hb).2]
        exact h1
      exact nI_inj9 (by omega) (by omega) h2
    · rw [List.mem_map, List.mem_filter, List.mem_range, Bool.not_eq_true', List.isEmpty_eq_false_iff]
      constructor
      · rintro ⟨r, r1, r2⟩
        have hr := hvr r (List.mem_range.mp r1)
        refine ⟨by rw [← r2]; exact hk.1 _ (rn_c_in A _ hr.1).1, ?_⟩
        exact List.ne_nil_of_mem (pvl_m.mpr ⟨hr.1, r2⟩)
      · rintro ⟨q1, q2⟩
        obtain ⟨v, hv9⟩ := List.exists_mem_of_ne_nil _ q2
        have hv1 := pvl_m.mp hv9
        obtain ⟨r, r1, r2⟩ := p2 _ (lbv_lt hi hv1.1)
        refine ⟨r, List.mem_range.mpr r1, ?_⟩
        rw [← hv1.2]
        refine (part_iff hi hv hk (hvr r r1).1 hv1.1).mp ?_
        exact (hvr r r1).2.trans r2.symm
  have h1 := pm.length_eq
  rw [List.length_map, List.length_range] at h1
  have h2 := rwL_len (A := A) (sg := sg) (m := m) P
  rw [rwL_eq, List.length_map, ← h1, cir_eq hk] at h2
  exact h2
end XF0
def wG (sg : Nat → Bool) (p : vT) : Int32 := if p.2 = 0 then (if sg p.1 then -1 else 1) else 0
theorem wr_sL {A : rn_L} {sg : Nat → Bool} : ∀ v, v ≤ A.flatten.length → iI (wrN A sg v) = sL (wG sg) (A.flatten.take v)
  | 0, _ => rfl
  | v + 1, h => by
    rw [take_s (vAt_of (show v < A.flatten.length by omega)), sL_s, ← wr_sL v (by omega)]
    show iI (wrN A sg v + if uns A v = 0 then (if sg (crs A v) then -1 else 1) else 0) = _
    rw [← iI_add]
    congr 1
    show iI (if uns A v = 0 then (if sg (crs A v) then -1 else 1) else 0) = if uns A v = 0 then (if sg (crs A v) then -1 else 1) else 0
    split
    · split
      · rfl
      · rfl
    · rfl
theorem np_sL {sg : Nat → Bool} {G : Nat → Int32} : ∀ c, (∀ x, x < c → G x = if sg x then -1 else 1) → np_sum G c = sL (wG sg) (pairs c)
  | 0, _ => rfl
  | c + 1, h => by
    rw [pairs_s, show pairs c ++ [(c, 0), (c, 1)] = (pairs c ++ [(c, 0)]) ++ [(c, 1)] by simp, sL_s, sL_s, ← np_sL c (fun x hx => h x (by omega))]
    show np_sum G c + G c = np_sum G c + (if sg c then -1 else 1) + 0
    rw [h c (by omega), Int32.add_zero]
/-- under and over in turn -/
def uoA (A : rn_L) : Prop := ∀ v, v < A.flatten.length → uns A v ≠ uns A (rn_nx A v)
/-- what figure answers: Pn is the number of parts -/
def figV (A : rn_L) (sg : Nat → Bool) (Pn k : Nat) (r : Int32) : Prop := (k = 0 → r = nI (A.flatten.length / 2)) ∧ (k = 1 → r = nI A.length) ∧ (k = 2 → r = nI (cirs A)) ∧ (k = 3 → r = nI Pn) ∧ (k = 4 → r = sL (wG sg) A.flatten) ∧ (k = 5 → r = 1 ∧ uoA A ∨ r = 0 ∧ ¬ uoA A)
section XF
variable {X : (Nat → Nat → Int32) → Prop} {z : ow_MS} {St : plT}
theorem xq_figure {d what : Int32} (h : gI X z) (hR : relR z St) : Te (fun K => qe_X13_figure K d what z) (fun r => rFl X z 1 r ∧ (∀ e, e < 40 → d = nI e → St e = none) ∨ ∃ e A sg, e < 40 ∧ d = nI e ∧ St e = some (A, sg) ∧ (rFl X z 2 r ∧ ¬ in9 what 6 ∨ rOk X z r ∧ ∃ k, k < 6 ∧ what = nI k ∧ ∃ m Pn, (k = 3 → mk A m Pn) ∧ figV A sg Pn k r.1)) := by
  let Q : Int32 × ow_MS → Prop := fun r => rFl X z 1 r ∧ (∀ e, e < 40 → d = nI e → St e = none) ∨ ∃ e A sg, e < 40 ∧ d = nI e ∧ St e = some (A, sg) ∧ (rFl X z 2 r ∧ ¬ in9 what 6 ∨ rOk X z r ∧ ∃ k, k < 6 ∧ what = nI k ∧ ∃ m Pn, (k = 3 → mk A m Pn) ∧ figV A sg Pn k r.1)
  have h1 := gI_1 (c := 0) h
  have hR1 := relR_1 (c := 0) hR
  refine e_X13_figure ?_
  refine u_X13_figure_0 ?_; unfold qm_X13_figure_0
  refine w_wrF (w_hasX hR1 (fun h0 => w_ifT rfl (w_mono (w_failX h1 fr_1) (fun r hr => Or.inl ⟨hr, h0⟩))) (fun e A sg he hx hs hv hne => w_ifF (by decide) ?_))
  subst hx
  have fin : ∀ {r}, (rFl X z 2 r ∧ ¬ in9 what 6 ∨ rOk X z r ∧ ∃ k, k < 6 ∧ what = nI k ∧ ∃ m Pn, (k = 3 → mk A m Pn) ∧ figV A sg Pn k r.1) → Q r := fun hr => Or.inr ⟨e, A, sg, he, rfl, hs, hr⟩
  have c1 : ¬ in9 what 6 → Tt (fun K k => q_X13_figure K k 1 (nI e) what 0 (usF z 1 0)) Q := by
    intro hno
    refine u_X13_figure_1 ?_; unfold qm_X13_figure_1
    exact w_mono (w_failX (k := 2) h1 fr_1) (fun r hr => fin (Or.inl ⟨hr, hno⟩))
  have h69 := in9_le (x := what) (n := 5) (by omega)
  refine w_if (fun h9 => c1 (fun h8 => (h69.mp h8).1 h9)) (fun e0 => w_if (fun e5 => w_cs0 (to_open pn1 he hv) (fun z2 ⟨o1, f1⟩ => ?_)) (fun h9 => c1 (fun h8 => h9 (h69.mp h8).2)))
  have h2 : gI X z2 := gI_net pn1 f1 (fun g hg => by omega) h1
  have hl := o1.len
  have hc := o1.2.2.2
  have hd := wkF_ok o1.wk
  have f02 : fr rPs z z2 := fr_tr fr_1 (fr_mono (fun g hg => Or.inr (by unfold rSc; omega)) f1)
  have z21 : z2.1 1 = 0 := by rw [(f1 1 (by omega)).1]; exact po_usF_at
  have ok : ∀ {a : Int32} {y : ow_MS} (k : Nat) (m : Nat → Nat) (Pn : Nat), gI X y → y.1 1 = 0 → fr rPs z y → k < 6 → what = nI k → (k = 3 → mk A m Pn) → figV A sg Pn k a → Q (a, y) := fun k m Pn q1 q2 q3 k1 k2 k3 k4 => fin (Or.inr ⟨⟨q1, q2, q3⟩, k, k1, k2, m, Pn, k3, k4⟩)
  have no : ∀ {P : Prop} {a b : Nat}, a ≠ b → a = b → P := fun h9 h8 => absurd h8 h9
  have c2 : what = nI 5 → ∀ (k v : Nat), v + k = A.flatten.length → (∀ u, u < v → uns A u ≠ uns A (rn_nx A u)) → Tt (fun K i => q_X13_figure K i 2 (nI e) what (nI v) z2) Q := by
    intro ew k
    induction k with
    | zero =>
      intro v hv9 hall
      refine u_X13_figure_2 ?_; unfold qm_X13_figure_2
      exact w_rdF o1.1.V (w_leT (by omega) (by omega) (w_some (ok 5 id 0 h2 z21 f02 (by omega) ew (no (by omega)) ⟨no (by omega), no (by omega), no (by omega), no (by omega), no (by omega), fun _ => Or.inl ⟨rfl, fun u hu => hall u (by omega)⟩⟩)))
    | succ k ih =>
      intro v hv9 hall
      have hvl : v < A.flatten.length := by omega
      have hnl := rn_nx_lt (A := A) hvl
      have u1 := (o1.wk.2 _ (vAt_mem hvl)).2.1
      have u2 := (o1.wk.2 _ (vAt_mem hnl)).2.1
      have u1 : uns A v < 2 := u1
      have u2 : uns A (rn_nx A v) < 2 := u2
      refine u_X13_figure_2 ?_; unfold qm_X13_figure_2
      refine w_rdF o1.1.V (w_leF (by omega) hvl (w_rdI (pl5 pn1) rfl (by omega) (lk_cu o1.1 hvl).2 (w_rdI (pl9 pn1) rfl (by omega) (lk_n o1.1 hvl) (w_rdI (pl5 pn1) rfl (by omega) (lk_cu o1.1 hnl).2 (w_if (fun q => w_some (ok 5 id 0 h2 z21 f02 (by omega) ew (no (by omega)) ⟨no (by omega), no (by omega), no (by omega), no (by omega), no (by omega), fun _ => Or.inr ⟨rfl, fun h9 => h9 v hvl (nI_inj9 (by omega) (by omega) q)⟩⟩)) (fun q => ?_))))))
      rw [nI_1]
      refine ih (v + 1) (by omega) (fun u hu => ?_)
      by_cases eu : u = v
      · rw [eu]
        exact fun e9 => q (by rw [e9])
      · exact hall u (by omega)
  refine w_if (fun q => w_rdF o1.1.V (w_nzI (by decide) (w_some (ok 0 id 0 h2 z21 f02 (by omega) q (no (by omega)) ⟨fun _ => pk_div (d := 2) (by omega) (by omega) (by omega), no (by omega), no (by omega), no (by omega), no (by omega), no (by omega)⟩)))) (fun n0 => w_if (fun q => w_rdF (lk_C o1.1) (w_some (ok 1 id 0 h2 z21 f02 (by omega) q (no (by omega)) ⟨no (by omega), fun _ => rfl, no (by omega), no (by omega), no (by omega), no (by omega)⟩))) (fun n1 => w_if (fun q => w_cs1 (tp_circles2 pn1 (by omega) (by omega) o1.1.1) (fun a z3 e9 => ?_)) (fun n2 => w_if (fun q => w_cs0 (tn_split pn1 (by omega) (by omega) hd o1.1) (fun z3 ⟨f3, P, hP⟩ => ?_)) (fun n3 => w_if (fun q => w_cs1 (tp_writhe2 pn1 o1) (fun a z3 e9 => ?_)) (fun n4 => c2 ?_ _ 0 (Nat.zero_add _) (fun u hu => by omega))))))
  · cases e9
    exact w_some (ok 2 id 0 h2 z21 f02 (by omega) q (no (by omega)) ⟨no (by omega), no (by omega), fun _ => by rw [cirs_eC], no (by omega), no (by omega), no (by omega)⟩)
  · obtain ⟨m, hm, -⟩ := mk_of (by omega) hP
    refine w_rdF hP.1 (w_some (ok 3 m P (gI_net pn1 f3 (fun g hg => by rcases hg with hg | hg <;> omega) h2) (by rw [(f3 1 (by unfold frP; omega)).1]; exact z21) (fr_tr f02 (fr_mono (fun g hg => Or.inr (by unfold rSc; unfold frP at hg; omega)) f3)) (by omega) q (fun _ => hm) ⟨no (by omega), no (by omega), no (by omega), fun _ => rfl, no (by omega), no (by omega)⟩))
  · cases e9
    refine w_some (ok 4 id 0 h2 z21 f02 (by omega) q (no (by omega)) ⟨no (by omega), no (by omega), no (by omega), no (by omega), fun _ => ?_, no (by omega)⟩)
    have := wr_sL (A := A) (sg := sg) A.flatten.length (Nat.le_refl _)
    rw [List.take_length] at this
    exact this
  · rcases five e0 e5 with q | q | q | q | q | q
    · exact absurd q n0
    · exact absurd q n1
    · exact absurd q n2
    · exact absurd q n3
    · exact absurd q n4
    · exact q
end XF
section XFC
variable {vl : Nat → Nat} {y : ow_MS} {St : plT} {x x' : Int32}
theorem xc_figure (hN : gN y) (hC : relC y St) (hS : okS St) : Te (fun K => ce_X11_figure vl K 0 x x' y) (fun r => gN r.2.2 ∧ fr uP y r.2.2 ∧ relC r.2.2 St ∧ (r.1 = 1 ∧ (∀ e, e < 40 → x = nI e → St e = none) ∨ ∃ e A sg, e < 40 ∧ x = nI e ∧ St e = some (A, sg) ∧ (r.1 = 2 ∧ ¬ in9 x' 6 ∨ r.1 = 0 ∧ ∃ k, k < 6 ∧ x' = nI k ∧ ∀ m Pn, (k = 3 → mk A m Pn) → figV A sg Pn k r.2.1))) := by
  refine e_X11_figure ?_; unfold cm_X11_figure_0
  refine w_tc0 (xc_need hN.1 hC hS) ?_ ?_
  · rintro y1 ⟨h1, rfl⟩
    rcases h1 with h1 | ⟨-, d, A, sg, c, hd, rfl, hSt, hs, hA, hne, hpl⟩
    · exact absurd (show (0 : Nat) = 1 from h1.1) (by decide)
    · have h69 := in9_le (x := x') (n := 5) (by omega)
      refine w_if (fun e => w_some ⟨hN, fr_rf, hC, Or.inr ⟨d, A, sg, hd, rfl, hSt, Or.inl ⟨rfl, fun h8 => (h69.mp h8).1 e⟩⟩⟩) (fun e0 => w_if (fun e5 => ?_) (fun e => w_some ⟨hN, fr_rf, hC, Or.inr ⟨d, A, sg, hd, rfl, hSt, Or.inl ⟨rfl, fun h8 => e (h69.mp h8).2⟩⟩⟩))
      refine w_cs0 (xc_ld hN hd hs hA hpl) ?_
      rintro y3 ⟨hN3, f3, T, hT, hT1, hV, hpm, hTp⟩
      have hC3 : relC y3 St := relC_fr f3 (fun q hq h9 => by unfold cW at hq; unfold cL at h9; omega) hC
      have hG : ∀ x, x < c → T.2.2.2 x = if sg x then -1 else 1 := fun x hx => iso_sg1 (p := (x, 0)) hV hpm ((hA.1.2 _).mpr ⟨hx, by show 0 < 2; omega⟩)
      have lA := okF_len hA.1
      have no : ∀ {P : Prop} {a b : Nat}, a ≠ b → a = b → P := fun h9 h8 => absurd h8 h9
      have f3u : fr uP y1 y3 := fr_mono (fun g hg => by unfold cL at hg; unfold uP; omega) f3
      have hv := hT.2.2.1
      have hx6 := five e0 e5
      have fin : ∀ (v : Int32) (y4 : ow_MS) (k : Nat), gN y4 → fr uP y1 y4 → relC y4 St → k < 6 → x' = nI k → (∀ m Pn, (k = 3 → mk A m Pn) → figV A sg Pn k v) → Tt (fun _ _ => some ((0 : Nat), v, y4)) (fun r => gN r.2.2 ∧ fr uP y1 r.2.2 ∧ relC r.2.2 St ∧ (r.1 = 1 ∧ (∀ e, e < 40 → nI d = nI e → St e = none) ∨ ∃ e A sg, e < 40 ∧ nI d = nI e ∧ St e = some (A, sg) ∧ (r.1 = 2 ∧ ¬ in9 x' 6 ∨ r.1 = 0 ∧ ∃ k, k < 6 ∧ x' = nI k ∧ ∀ m Pn, (k = 3 → mk A m Pn) → figV A sg Pn k r.2.1))) := fun v y4 k g1 g2 g3 g4 g5 g6 => w_some ⟨g1, g2, g3, Or.inr ⟨d, A, sg, hd, rfl, hSt, Or.inr ⟨rfl, k, g4, g5, g6⟩⟩⟩
      refine w_if (fun e => ?_) (fun e => ?_)
      · refine w_cs1 (tc_alternates nH4 hT.1 hv.2.1) ?_
        rintro v y4 ⟨h4, rfl⟩
        have hx5 : x' = 5 := by
          rcases hx6 with rfl | rfl | rfl | rfl | rfl | rfl
          · exact absurd e (by decide)
          · exact absurd e (by decide)
          · exact absurd e (by decide)
          · exact absurd e (by decide)
          · exact absurd e (by decide)
          · rfl
        have al : (∀ v, v < 2 * T.1 → (nI v &&& 1) ≠ (nI (T.2.2.1.1 v) &&& 1)) ↔ uoA A := by
          have cv : ∀ v, v < A.flatten.length → ((nI (lb (vAt A v)) &&& 1) = (nI (T.2.2.1.1 (lb (vAt A v))) &&& 1) ↔ uns A v = uns A (rn_nx A v)) := fun v hv9 => by
            have hn9 := rn_nx_lt (A := A) hv9
            have e9 : T.2.2.1.1 (lb (vAt A v)) = lb (vAt A (rn_nx A v)) := hT.2.1.2.2.2.2.2.1 v hv9
            have b1 : lb (vAt A v) < 2 * T.1 := lbv_lt hT.2.1 hv9
            have b2 : lb (vAt A (rn_nx A v)) < 2 * T.1 := lbv_lt hT.2.1 hn9
            have c1 : lb (vAt A v) % 2 = uns A v := (lbv_hf hT.2.1 hv9).2
            have c2 : lb (vAt A (rn_nx A v)) % 2 = uns A (rn_nx A v) := (lbv_hf hT.2.1 hn9).2
            have h12 := hv.2.1
            rw [e9, an1_c ⟨lb (vAt A v), by omega⟩, an1_c ⟨lb (vAt A (rn_nx A v)), by omega⟩]
            dsimp only
            rw [c1, c2]
            exact ⟨fun q => nI_inj9 (by omega) (by omega) q, fun q => by rw [q]⟩
          constructor
          · intro h9 v hv9 e9
            exact h9 (lb (vAt A v)) (lbv_lt hT.2.1 hv9) ((cv v hv9).mpr e9)
          · intro h9 k hk e9
            obtain ⟨v, v1, v2⟩ := lbv_sur hT.2.1 hk
            have v2 : lb (vAt A v) = k := v2
            rw [← v2] at e9
            exact h9 v v1 ((cv v v1).mp e9)
        dsimp only at h4
        rcases h4 with ⟨rfl, h5⟩ | ⟨rfl, h5⟩
        · exact w_ifF (by decide) (fin 1 y4 5 hN3 f3u hC3 (by omega) hx5 (fun m Pn _ => ⟨no (by omega), no (by omega), no (by omega), no (by omega), no (by omega), fun _ => Or.inl ⟨rfl, al.mp h5⟩⟩))
        · exact w_ifT rfl (fin 0 y4 5 hN3 f3u hC3 (by omega) hx5 (fun m Pn _ => ⟨no (by omega), no (by omega), no (by omega), no (by omega), no (by omega), fun _ => Or.inr ⟨rfl, fun h9 => by
            obtain ⟨v, v1, v2⟩ := h5
            exact al.mpr h9 v v1 v2⟩⟩))
      · have ci6 : T.2.1 ≤ 6 := by have := hv.2.2.2; omega
        refine w_if (fun e1 => ?_) (fun n0 => w_if (fun e1 => ?_) (fun n1 => w_if (fun e1 => ?_) (fun n2 => w_if (fun e1 => ?_) (fun n3 => w_if (fun e1 => ?_) (fun n4 => ?_)))))
        · subst e1
          exact w_rdF hT.1.1 (fin _ y3 0 hN3 f3u hC3 (by omega) rfl (fun m Pn hm => ⟨fun _ => by rw [show A.flatten.length / 2 = T.1 by omega], no (by omega), no (by omega), no (by omega), no (by omega), no (by omega)⟩))
        · subst e1
          exact w_rdF hT.2.2.2.2.2 (fin _ y3 1 hN3 f3u hC3 (by omega) rfl (fun m Pn hm => ⟨no (by omega), fun _ => rfl, no (by omega), no (by omega), no (by omega), no (by omega)⟩))
        · subst e1
          exact w_rdF hT.1.2.1 (fin _ y3 2 hN3 f3u hC3 (by omega) rfl (fun m Pn hm => ⟨no (by omega), no (by omega), fun _ => by rw [← hT.2.1.2.2.2.2.2.2.2], no (by omega), no (by omega), no (by omega)⟩))
        · subst e1
          refine w_cs0 (tc_markParts nH4 hT.1 (fun a ha => (hv.1 a ha).1) hv.2.1) ?_
          rintro y4 ⟨m1, m2, m3⟩
          have hof := np_parts_of (N := T.2.2.1.1) (c := T.1) (fun a ha => (hv.1 a ha).1) hv.2.1 (y3.2.1 (4000 + 6))
          rw [hof.2] at m2
          have hy4 : cAt y4 4000 T := cAt_fr m3 (fun g hg h9 => by unfold cP at hg; unfold cQ at h9; omega) hT.1
          refine w_rdF m2 (w_rdF hy4.2.1 ?_)
          rw [nI_add]
          exact fin _ y4 3 (gN_net nH4 m3 (fun g hg => by unfold cQ at hg; omega) ⟨T, hy4, hv.2.2.1⟩ hN3) (fr_tr f3u (fr_mono (fun g hg => by unfold cQ at hg; unfold uP; omega) m3)) (relC_fr m3 (fun q hq h9 => by unfold cW at hq; unfold cQ at h9; omega) hC3) (by omega) rfl (fun m Pn hm => ⟨no (by omega), no (by omega), no (by omega), fun _ => by rw [← parts_cnt hT.2.1 hv.1 (hm rfl), hT.2.1.2.2.2.2.2.2.2], no (by omega), no (by omega)⟩)
        · subst e1
          refine w_cs1 (tc_writhe nH4 hT.1 hv.2.1) ?_
          rintro v y4 ⟨h4, rfl⟩
          dsimp only at h4
          exact fin _ y4 4 hN3 f3u hC3 (by omega) rfl (fun m Pn hm => ⟨no (by omega), no (by omega), no (by omega), no (by omega), fun _ => by rw [h4, np_sL T.1 (fun x hx => hG x (by omega)), hT1, sL_pm (okF_pairs hA.1)], no (by omega)⟩)
        · exfalso
          rcases hx6 with h | h | h | h | h | h
          · exact n0 h
          · exact n1 h
          · exact n2 h
          · exact n3 h
          · exact n4 h
          · rw [h] at e
            exact e (by decide)
  · rintro a y1 ha ⟨h1, rfl⟩
    rcases h1 with h1 | h1
    · exact w_some ⟨hN, fr_rf, hC, Or.inl h1⟩
    · exact absurd h1.1 ha
end XFC
