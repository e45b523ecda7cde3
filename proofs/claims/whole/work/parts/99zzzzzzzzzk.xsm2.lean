/-! exact calls: smooth, of the reference and of the class -/
theorem iso_rge {A : rn_L} {sg : Nat → Bool} {f : Nat → Nat} {T : ow_NT} (hi : isoN A sg f T) (hv : vn T.1 T.2.2.1) : np_rg T.1 T.2.2.1 + T.2.1 = A.length := by
  have h0 := iso_rg hi
  have h2 := ne_cnt A
  have h3 : cirs A = T.2.1 := hi.2.2.2.2.2.2.2
  have h12 := hi.2.2.1
  have stay : ∀ i v, v < A.flatten.length → ∃ w, w < A.flatten.length ∧ rn_c A w = rn_c A v ∧ it T.2.2.1.1 i (lbv A f v) = lbv A f w := by
    intro i
    induction i with
    | zero => exact fun v hv9 => ⟨v, hv9, rfl, rfl⟩
    | succ i ih =>
      intro v hv9
      obtain ⟨w, w1, w2, w3⟩ := ih v hv9
      refine ⟨rn_nx A w, rn_nx_lt w1, (c_nx w1).trans w2, ?_⟩
      show T.2.2.1.1 (it T.2.2.1.1 i (lbv A f v)) = _
      rw [w3]
      exact hi.2.2.2.2.2.1 w w1
  have ex : ∀ k, k < A.length → neB A k = true → ∃ w, w < 2 * T.1 ∧ lst T.2.2.1.1 w 24 = true ∧ ∃ u, u < A.flatten.length ∧ rn_c A u = k ∧ lbv A f u = w := by
    intro k hk hn
    have hb := rnb_s hk
    have hl : 0 < (A[k]).length := by
      unfold neB at hn
      rw [List.getElem?_eq_getElem hk] at hn
      have hn : (!(A[k]).isEmpty) = true := hn
      cases e : A[k] with
      | nil =>
        rw [e] at hn
        exact absurd hn (by decide)
      | cons a X => exact Nat.succ_pos _
    have h9 := rn_b_le A (k + 1)
    have hlt : rn_b A k < A.flatten.length := by omega
    have hc := rn_c_of A k (rn_b A k) (Nat.le_refl _) (by omega)
    obtain ⟨w, w1, ⟨i, w2⟩, w3⟩ := sr_least (vD_vn.mpr hv) (fun j (hj : j < 2 * T.1) => by omega) (lbv_lt hi hlt)
    obtain ⟨u, u1, u2, u3⟩ := stay i _ hlt
    exact ⟨w, w1, w3, u, u1, u2.trans hc, by rw [← u3]; exact w2⟩
  have ch : ∀ k, ∃ w, k < A.length → neB A k = true → w < 2 * T.1 ∧ lst T.2.2.1.1 w 24 = true ∧ ∃ u, u < A.flatten.length ∧ rn_c A u = k ∧ lbv A f u = w := fun k => by
    by_cases e1 : k < A.length
    · by_cases e2 : neB A k = true
      · obtain ⟨w, hw⟩ := ex k e1 e2
        exact ⟨w, fun _ _ => hw⟩
      · exact ⟨0, fun _ h9 => absurd h9 e2⟩
    · exact ⟨0, fun h9 => absurd h9 e1⟩
  have h1 : cntB (neB A) A.length ≤ np_rg T.1 T.2.2.1 := by
    refine cntB_inj A.length (neB A) (fun k => lst T.2.2.1.1 k 24) (fun k => Classical.choose (ch k)) (fun k hk hn => ?_) (fun k j hk hj qk qj e => ?_)
    · obtain ⟨a1, a2, -⟩ := Classical.choose_spec (ch k) hk hn
      exact ⟨a1, a2⟩
    · obtain ⟨-, -, u, u1, u2, u3⟩ := Classical.choose_spec (ch k) hk qk
      obtain ⟨-, -, t, t1, t2, t3⟩ := Classical.choose_spec (ch j) hj qj
      have e : Classical.choose (ch k) = Classical.choose (ch j) := e
      have := lbv_inj hi u1 t1 (by rw [u3, t3, e])
      rw [← u2, ← t2, this]
  omega
/-- the two visits of crossing k, in their order -/
def sm2 (A : rn_L) (k v w : Nat) : Prop := v < w ∧ w < A.flatten.length ∧ crs A v = k ∧ (vAt A v = (k, 0) ∧ vAt A w = (k, 1) ∨ vAt A v = (k, 1) ∧ vAt A w = (k, 0))
theorem sm2_ex {A : rn_L} (hF : wkF A.flatten) {v : Nat} (hv : v < A.flatten.length) : ∃ a b, sm2 A (crs A v) a b := by
  obtain ⟨v0, v1, a1, b1, a2, b2, -, -, -⟩ := vis_two hF hv
  have c0 : crs A v0 = crs A v := by show (vAt A v0).1 = _; rw [a2]
  have c1 : crs A v1 = crs A v := by show (vAt A v1).1 = _; rw [b2]
  rcases Nat.lt_trichotomy v0 v1 with h | h | h
  · exact ⟨v0, v1, h, b1, c0, Or.inl ⟨a2, b2⟩⟩
  · rw [h, b2] at a2
    exact absurd (Prod.mk.inj a2).2 (by decide)
  · exact ⟨v1, v0, h, a1, c1, Or.inr ⟨b2, a2⟩⟩
theorem sm2_uni {A : rn_L} (hn : A.flatten.Nodup) {k v w v' w' : Nat} (h : sm2 A k v w) (h' : sm2 A k v' w') : v = v' ∧ w = w' := by
  obtain ⟨a1, a2, -, a3⟩ := h
  obtain ⟨b1, b2, -, b3⟩ := h'
  have inj : ∀ {s t : Nat}, s < A.flatten.length → t < A.flatten.length → vAt A s = vAt A t → s = t := fun hs ht e => nodup_at hn (vAt_of hs) (by rw [vAt_of ht, e])
  rcases a3 with ⟨p1, p2⟩ | ⟨p1, p2⟩ <;> rcases b3 with ⟨q1, q2⟩ | ⟨q1, q2⟩
  · exact ⟨inj (by omega) (by omega) (p1.trans q1.symm), inj a2 b2 (p2.trans q2.symm)⟩
  · have e1 := inj (s := v) (t := w') (by omega) b2 (p1.trans q2.symm)
    have e2 := inj (s := w) (t := v') a2 (by omega) (p2.trans q1.symm)
    omega
  · have e1 := inj (s := v) (t := w') (by omega) b2 (p1.trans q2.symm)
    have e2 := inj (s := w) (t := v') a2 (by omega) (p2.trans q1.symm)
    omega
  · exact ⟨inj (by omega) (by omega) (p1.trans q1.symm), inj a2 b2 (p2.trans q2.symm)⟩
theorem sm_perm {A : rn_L} {v w : Nat} (hvw : v < w) (hw : w < A.flatten.length) : A.flatten.Perm (vAt A v :: vAt A w :: (smV A v w).flatten) := by
  obtain ⟨c1, c2, c3⟩ := rn_c_in A v (by omega)
  obtain ⟨j1, j2, j3⟩ := rn_c_in A w hw
  unfold smV
  generalize rn_c A v = c at c1 c2 c3
  generalize rn_c A w = J at j1 j2 j3
  have eA : A = ((cps A 0 c).map (List.map (vAt A))) ++ ((seg (rn_b A c) (rn_b A (c + 1))).map (vAt A)) :: ((cps A (c + 1) A.length).map (List.map (vAt A))) := by
    conv => lhs; rw [← cps_all (A := A)]
    rw [cps_app (Nat.zero_le c) (show c ≤ A.length by omega), cps_cons c1, List.map_append, List.map_cons]
  have eL : seg (rn_b A c) (rn_b A (c + 1)) = seg (rn_b A c) v ++ v :: seg (v + 1) (rn_b A (c + 1)) := by
    rw [seg_app c2 (Nat.le_of_lt c3), seg_cons c3]
  have fin : ∀ (B D : rn_L), A = B → (∀ a, B.flatten.count a = (vAt A v :: vAt A w :: D.flatten).count a) → A.flatten.Perm (vAt A v :: vAt A w :: D.flatten) := fun B D e h => List.perm_iff_count.mpr (fun a => by
    have h9 := h a
    rw [← e] at h9
    exact h9)
  unfold smC
  by_cases hone : w < rn_b A (c + 1)
  · rw [if_pos hone]
    have eL2 : seg (v + 1) (rn_b A (c + 1)) = seg (v + 1) w ++ w :: seg (w + 1) (rn_b A (c + 1)) := by
      rw [seg_app (show v + 1 ≤ w by omega) (Nat.le_of_lt hone), seg_cons hone]
    rw [eL, eL2] at eA
    refine fin _ _ eA (fun a => ?_)
    simp only [List.map_append, List.map_cons, List.map_nil, List.flatten_append, List.flatten_cons, List.flatten_nil, List.count_append, List.count_cons, List.count_nil]
    omega
  · rw [if_neg hone]
    have hcJ : c < J := by
      rcases Nat.lt_or_ge c J with h9 | h9
      · exact h9
      · have := rn_b_mono2 (A := A) (show J + 1 ≤ c + 1 by omega)
        omega
    have eP : cps A (c + 1) A.length = cps A (c + 1) J ++ seg (rn_b A J) (rn_b A (J + 1)) :: cps A (J + 1) A.length := by
      rw [cps_app (show c + 1 ≤ J by omega) (show J ≤ A.length by omega), cps_cons j1]
    have eM : seg (rn_b A J) (rn_b A (J + 1)) = seg (rn_b A J) w ++ w :: seg (w + 1) (rn_b A (J + 1)) := by
      rw [seg_app j2 (Nat.le_of_lt j3), seg_cons j3]
    rw [eL, eP, eM] at eA
    refine fin _ _ eA (fun a => ?_)
    simp only [List.map_append, List.map_cons, List.map_nil, List.flatten_append, List.flatten_cons, List.flatten_nil, List.count_append, List.count_cons, List.count_nil]
    omega
theorem sm_wk {A : rn_L} {k v w : Nat} (hF : wkF A.flatten) (h : sm2 A k v w) : wkF (smV A v w).flatten ∧ (smV A v w).flatten.length + 2 = A.flatten.length ∧ ∀ p, p ∈ (smV A v w).flatten → p ∈ A.flatten := by
  obtain ⟨h1, h2, -, h3⟩ := h
  have pm := sm_perm h1 h2
  have nn := pm.nodup_iff.mp hF.1
  obtain ⟨n1, n2⟩ := List.nodup_cons.mp nn
  obtain ⟨n3, n4⟩ := List.nodup_cons.mp n2
  have up : ∀ p, p ∈ (smV A v w).flatten → p ∈ A.flatten := fun p hp => pm.mem_iff.mpr (List.mem_cons_of_mem _ (List.mem_cons_of_mem _ hp))
  refine ⟨⟨n4, fun p hp => ?_⟩, by rw [pm.length_eq]; rfl, up⟩
  obtain ⟨a1, a2, a3⟩ := hF.2 p (up p hp)
  refine ⟨a1, a2, ?_⟩
  have ne1 : p ≠ vAt A v := fun e => n1 (List.mem_cons_of_mem _ (by rw [← e]; exact hp))
  have ne2 : p ≠ vAt A w := fun e => n3 (by rw [← e]; exact hp)
  rcases List.mem_cons.mp (pm.mem_iff.mp a3) with e | h9
  · exfalso
    rcases h3 with ⟨p1, p2⟩ | ⟨p1, p2⟩
    · rw [p1] at e
      obtain ⟨e1, e2⟩ := Prod.mk.inj e
      exact ne2 (by rw [p2]; exact Prod.ext e1 (by show p.2 = 1; omega))
    · rw [p1] at e
      obtain ⟨e1, e2⟩ := Prod.mk.inj e
      exact ne2 (by rw [p2]; exact Prod.ext e1 (by show p.2 = 0; omega))
  · rcases List.mem_cons.mp h9 with e | h9
    · exfalso
      rcases h3 with ⟨p1, p2⟩ | ⟨p1, p2⟩
      · rw [p2] at e
        obtain ⟨e1, e2⟩ := Prod.mk.inj e
        exact ne1 (by rw [p1]; exact Prod.ext e1 (by show p.2 = 0; omega))
      · rw [p2] at e
        obtain ⟨e1, e2⟩ := Prod.mk.inj e
        exact ne1 (by rw [p1]; exact Prod.ext e1 (by show p.2 = 1; omega))
    · exact h9
section XSQ
variable {X : (Nat → Nat → Int32) → Prop} {z : ow_MS} {St : plT}
theorem xq_smooth {d x : Int32} (h : gI X z) (hR : relR z St) : Te (fun K => qe_X13_smooth K d x z) (fun r => rFl X z 1 r ∧ (∀ e, e < 40 → d = nI e → St e = none) ∨ ∃ e A sg, e < 40 ∧ d = nI e ∧ St e = some (A, sg) ∧ (rFl X z 1 r ∧ (∀ k, 2 * k < A.flatten.length → x ≠ nI k) ∨ ∃ k v w, 2 * k < A.flatten.length ∧ x = nI k ∧ sm2 A k v w ∧ (rFl X z 2 r ∧ 6 < (smV A v w).length ∨ (smV A v w).length ≤ 6 ∧ (rFl X z 3 r ∧ allF St ∨ ∃ e, lstF St e ∧ rKp X z e (smV A v w) sg r)))) := by
  let Q : Int32 × ow_MS → Prop := fun r => rFl X z 1 r ∧ (∀ e, e < 40 → d = nI e → St e = none) ∨ ∃ e A sg, e < 40 ∧ d = nI e ∧ St e = some (A, sg) ∧ (rFl X z 1 r ∧ (∀ k, 2 * k < A.flatten.length → x ≠ nI k) ∨ ∃ k v w, 2 * k < A.flatten.length ∧ x = nI k ∧ sm2 A k v w ∧ (rFl X z 2 r ∧ 6 < (smV A v w).length ∨ (smV A v w).length ≤ 6 ∧ (rFl X z 3 r ∧ allF St ∨ ∃ e, lstF St e ∧ rKp X z e (smV A v w) sg r)))
  have h1 := gI_1 (c := 0) h
  have hR1 := relR_1 (c := 0) hR
  refine e_X13_smooth ?_
  refine u_X13_smooth_0 ?_; unfold qm_X13_smooth_0
  refine w_wrF (w_hasX hR1 (fun h0 => w_ifT rfl (w_mono (w_failX h1 fr_1) (fun r hr => Or.inl ⟨hr, h0⟩))) (fun e A sg he hx hs hv hne => w_ifF (by decide) ?_))
  subst hx
  refine w_cs0 (to_open pn1 he hv) (fun z2 ⟨o1, f1⟩ => ?_)
  have h2 : gI X z2 := gI_net pn1 f1 (fun g hg => by omega) h1
  have hl := o1.len
  have hC := o1.2.2.2
  have hd := wkF_ok o1.wk
  have f02 : fr rPs z z2 := fr_tr fr_1 (fr_mono (fun g hg => Or.inr (by unfold rSc; omega)) f1)
  have hR2 : relR z2 St := relR_fr f1 (by omega) hR1
  have z21 : z2.1 1 = 0 := by rw [(f1 1 (by omega)).1]; exact po_usF_at
  have fin : ∀ {r}, (rFl X z 1 r ∧ (∀ k, 2 * k < A.flatten.length → x ≠ nI k) ∨ ∃ k v w, 2 * k < A.flatten.length ∧ x = nI k ∧ sm2 A k v w ∧ (rFl X z 2 r ∧ 6 < (smV A v w).length ∨ (smV A v w).length ≤ 6 ∧ (rFl X z 3 r ∧ allF St ∨ ∃ e, lstF St e ∧ rKp X z e (smV A v w) sg r))) → Q r := fun hr => Or.inr ⟨e, A, sg, he, rfl, hs, hr⟩
  have c1 : (∀ k, 2 * k < A.flatten.length → x ≠ nI k) → Tt (fun K k => q_X13_smooth K k 1 (nI e) x 0 z2) Q := by
    intro hno
    refine u_X13_smooth_1 ?_; unfold qm_X13_smooth_1
    exact w_mono (w_failX (k := 1) h2 f02) (fun r hr => fin (Or.inl ⟨hr, hno⟩))
  refine w_if (fun h9 => c1 (fun k hk ek => ?_)) (fun h0 => w_rdF o1.1.V (w_nzI (by decide) ?_))
  · rw [ek] at h9
    exact absurd h9 (nI_pos (by omega))
  rw [show nI A.flatten.length / 2 = nI (A.flatten.length / 2) from pk_div (d := 2) (by omega) (by omega) (by omega)]
  obtain ⟨c, hok, hc12⟩ := o1.2.2.1
  have hVc := okF_len hok
  refine w_if (fun h9 => ?_) (fun h9 => c1 (fun k hk ek => ?_))
  rotate_left
  · rw [ek] at h9
    exact h9 ((nI_ltI (by omega) (by omega)).mpr (by omega))
  obtain ⟨y, hy31, rfl⟩ := nI_of h0
  have hy : y < A.flatten.length / 2 := (nI_ltI hy31 (by omega)).mp h9
  obtain ⟨t0, ht0, ht0e⟩ := ok_has hok (x := y) (by omega)
  obtain ⟨t, w, hsm⟩ := sm2_ex o1.wk ht0
  rw [ht0e] at hsm
  have ht1 : t < A.flatten.length := by have := hsm.1; have := hsm.2.1; omega
  have ht2 : crs A t = y := hsm.2.2.1
  have hml := mtf_lt hd ht1
  have hmw : mtf A t = w := by
    obtain ⟨v0, v1, a1, b1, a2, b2, m0, m1, all⟩ := vis_two o1.wk ht1
    rw [ht2] at a2 b2
    have inj : ∀ {s t : Nat}, s < A.flatten.length → t < A.flatten.length → vAt A s = vAt A t → s = t := fun hs ht e => nodup_at o1.wk.1 (vAt_of hs) (by rw [vAt_of ht, e])
    rcases hsm.2.2.2 with ⟨p1, p2⟩ | ⟨p1, p2⟩
    · rw [inj ht1 a1 (p1.trans a2.symm), m0]
      exact inj b1 hsm.2.1 (b2.trans p2.symm)
    · rw [inj ht1 b1 (p1.trans b2.symm), m1]
      exact inj a1 hsm.2.1 (a2.trans p2.symm)
  have hfst : ∀ j, j < t → crs A j ≠ y := fun j hj e9 => by
    obtain ⟨v0, v1, a1, b1, a2, b2, m0, m1, all⟩ := vis_two o1.wk ht1
    have hj1 := all j (by omega) (e9.trans ht2.symm)
    have ht3 := all t ht1 rfl
    have hw3 := all w hsm.2.1 (by
      show (vAt A w).1 = _
      rw [ht2]
      rcases hsm.2.2.2 with ⟨-, p2⟩ | ⟨-, p2⟩
      · rw [p2]
      · rw [p2])
    have := hsm.1
    omega
  have find : ∀ (k v : Nat), v + k = t → Tt (fun K i => q_X13_smooth K i 2 (nI e) (nI y) (nI v) z2) Q := by
    intro k
    induction k with
    | zero =>
      intro v hv9
      have hvt : v = t := by omega
      subst hvt
      obtain ⟨g1, g2, g3⟩ := rn_c_in A v ht1
      refine u_X13_smooth_2 ?_; unfold qm_X13_smooth_2
      refine w_rdI (pl4 pn1) rfl (by omega) (lk_cu o1.1 ht1).1 (w_ifT (by rw [ht2]) (w_rdI (pl8 pn1) rfl (by omega) (lk_c o1.1 ht1) (w_rdI (pl7 pn1) rfl (by omega) (lk_m hd o1.1 ht1) (w_cs0 (xr_smoothIn pn1 pn3 (by omega) hl (by omega) o1.1.1 g1 g2 g3 (by rw [hmw]; exact hsm.1) hml) (fun z3 ⟨b3, s3, f3⟩ => ?_)))))
      rw [hmw] at b3
      have b3 : rn_At z3 3000 (smV A v w) [] := b3
      have h3 : gI X z3 := gI_net pn3 f3 (fun g hg => by omega) h2
      have f03 : fr rPs z z3 := fr_tr f02 (fr_mono (fun g hg => Or.inr (by unfold rSc; omega)) f3)
      have hR3 : relR z3 St := relR_fr f3 (by omega) hR2
      obtain ⟨k1, k2, k3⟩ := sm_wk o1.wk hsm
      have hsl : (smV A v w).length ≤ 7 := by
        unfold smV
        rw [List.length_map]
        unfold smC
        split
        · simp only [List.length_append, cps_n, List.length_cons, List.length_nil]
          omega
        · simp only [List.length_append, cps_n, List.length_cons, List.length_nil]
          obtain ⟨j1, j2, j3⟩ := rn_c_in A w hsm.2.1
          rename_i hone
          have hcJ : rn_c A v < rn_c A w := by
            rcases Nat.lt_or_ge (rn_c A v) (rn_c A w) with h9 | h9
            · exact h9
            · have := rn_b_mono2 (A := A) (show rn_c A w + 1 ≤ rn_c A v + 1 by omega)
              omega
          omega
      have fin2 : ∀ {r}, (rFl X z 2 r ∧ 6 < (smV A v w).length ∨ (smV A v w).length ≤ 6 ∧ (rFl X z 3 r ∧ allF St ∨ ∃ e, lstF St e ∧ rKp X z e (smV A v w) sg r)) → Q r := fun hr => fin (Or.inr ⟨y, v, w, by omega, rfl, hsm, hr⟩)
      refine w_rdF b3.2.1 (w_le (b := 6) (by omega) (by omega) (fun h8 => w_freeX hR3 (fun hall => w_ifT rfl (w_mono (w_failX (k := 3) h3 f03) (fun r hr => fin2 (Or.inr ⟨h8, Or.inl ⟨hr, hall⟩⟩)))) (fun f hfr => w_ifF (rn_neg1 (by have := hfr.1; omega)) (w_mono (w_keepX (z0 := z) (sg2 := sg) h3 hR3 hfr (by rw [(f3 1 (by omega)).1]; exact z21) f03 b3 (fun p hp => ?_) k1 (by omega) h8) (fun r hr => fin2 (Or.inr ⟨h8, Or.inr ⟨f, hfr, hr⟩⟩))))) (fun h8 => w_mono (w_failX (k := 2) h3 f03) (fun r hr => fin2 (Or.inl ⟨hr, by omega⟩))))
      show z3.2.1 3006 p.1 = _
      rw [s3 _ ((k1.2 p hp).1)]
      exact o1.2.1 p (k3 p hp)
    | succ k ih =>
      intro v hv9
      have hvl : v < A.flatten.length := by omega
      have hcv := hfst v (by omega)
      have hx12 := (o1.cx hvl).1
      refine u_X13_smooth_2 ?_; unfold qm_X13_smooth_2
      refine w_rdI (pl4 pn1) rfl (by omega) (lk_cu o1.1 hvl).1 (w_ifF (fun e9 => hcv ((nI_eq (by omega) (by omega)).mp e9)) ?_)
      rw [nI_1]
      exact ih (v + 1) (by omega)
  exact find t 0 (by omega)
end XSQ
section XSC
variable {vl : Nat → Nat} {y : ow_MS} {St : plT} {x x' : Int32}
theorem xc_smooth (hN : gN y) (hC : relC y St) (hS : okS St) : Te (fun K => ce_X11_smooth vl K 0 x x' y) (fun r => r.1 = 1 ∧ gN r.2.2 ∧ fr uP y r.2.2 ∧ relC r.2.2 St ∧ (∀ d, d < 40 → x = nI d → St d = none) ∨ ∃ d A sg, d < 40 ∧ x = nI d ∧ St d = some (A, sg) ∧ (r.1 = 1 ∧ gN r.2.2 ∧ fr uP y r.2.2 ∧ relC r.2.2 St ∧ (∀ k, 2 * k < A.flatten.length → x' ≠ nI k) ∨ ∃ k v w, 2 * k < A.flatten.length ∧ x' = nI k ∧ sm2 A k v w ∧ (r.1 = 4 ∧ gN r.2.2 ∧ fr uP y r.2.2 ∧ relC r.2.2 St ∧ 6 < (smV A v w).length ∨ (smV A v w).length ≤ 6 ∧ (r.1 = 3 ∧ gN r.2.2 ∧ fr uP y r.2.2 ∧ relC r.2.2 St ∧ allF St ∨ r.1 = 0 ∧ ∃ e, lstF St e ∧ cKp y e (smV A v w) sg r.2)))) := by
  refine e_X11_smooth ?_; unfold cm_X11_smooth_0
  refine w_tc0 (xc_need hN.1 hC hS) ?_ ?_
  · rintro y1 ⟨h1, rfl⟩
    rcases h1 with h1 | ⟨-, d, A, sg, c, hd, rfl, hSt, hs, hA, hne, hpl⟩
    · exact absurd (show (0 : Nat) = 1 from h1.1) (by decide)
    · refine w_cs0 (xc_ld hN hd hs hA hpl) ?_
      rintro y3 ⟨hN3, f3, T, hT, hT1, hV, hpm, hTp⟩
      have f3u : fr uP y1 y3 := fr_mono (fun g hg => by unfold cL at hg; unfold uP; omega) f3
      have hC3 : relC y3 St := relC_fr f3 (fun q hq h9 => by unfold cW at hq; unfold cL at h9; omega) hC
      have hv := hT.2.2.1
      have h12 := hv.2.1
      have hlen := hV.1.2.1
      refine w_tc0 (tc_needCrossing hT.1.1 hv.2.1) ?_ ?_
      · rintro y4 ⟨h4, rfl⟩
        rcases h4 with ⟨-, i, hi, rfl⟩ | h4
        · obtain ⟨t0, ht0, ht0e⟩ := ok_has hA.1 (x := i) (by omega)
          obtain ⟨v, w, hsm⟩ := sm2_ex hV.1.1 ht0
          rw [ht0e] at hsm
          obtain ⟨f', hV5⟩ := iso_sm hV hsm.1 hsm.2.1 (by rw [hsm.2.2.1]; exact hsm.2.2.2)
          rw [hsm.2.2.1] at hV5
          have hV5 : isoV (smV A v w) sg f' (ntSm T i) := hV5
          have hpm5 : pm1 (ntSm T i) := pm1_rm (T := (T.1, T.2.1, np_exchange T.2.2.1 (2 * i) (2 * i + 1), T.2.2.2)) hpm hi
          have hpl5 := pl_smooth hv.1 h12 hi hTp
          have hv5 : vn (ntSm T i).1 (ntSm T i).2.2.1 := isoV_vn hV5
          have hrg := iso_rge (isoS_iff.mp hV5.1) hv5
          refine w_cs0 (tc_smoothCrossing nH4 hT.1 hv.2.2.1 hi h12) ?_
          rintro y5 ⟨g1, g2⟩
          have g1 : cAt y5 4000 (ntSm T i) := g1
          have hbx : ow_b24 (np_exchange T.2.2.1 (2 * i) (2 * i + 1)) := b24_exchange hv.2.2.1 (by omega) (by omega)
          have hb5 : ow_b24 (ntSm T i).2.2.1 := np_rmS_b24 hbx (by omega)
          have e1 : (ntSm T i).1 = T.1 - 1 := rfl
          generalize ntSm T i = T5 at hV5 hpm5 hpl5 hv5 hrg g1 hb5 e1
          have hc5 : T5.1 ≤ 12 := by omega
          have hsl : (smV A v w).length ≤ 40 := by
            unfold smV
            rw [List.length_map]
            unfold smC
            have := hA.2.2.2.2
            have j1 := (rn_c_in A w hsm.2.1).1
            have j2 := (rn_c_in A v (by have := hsm.1; have := hsm.2.1; omega)).1
            split
            · simp only [List.length_append, cps_n, List.length_cons, List.length_nil]
              omega
            · simp only [List.length_append, cps_n, List.length_cons, List.length_nil]
              omega
          refine w_cs0 (tc_markRings nH4 g1 hb5 hc5) ?_
          rintro y6 ⟨m1, m2, m3⟩
          have hof := np_rings_of (N := T5.2.2.1.1) (c := T5.1) (fun a ha => (hv5 a ha).1) (y5.2.1 (4000 + 5))
          rw [hof.2, rings_cnt hv5 hc5] at m2
          have hy6 : cAt y6 4000 T5 := cAt_fr m3 (fun g hg h9 => by unfold cP at hg; unfold cR at h9; omega) g1
          have hN5 : gN y5 := gN_net nH4 g2 (fun g hg => by unfold cP at hg; omega) ⟨T5, g1, hb5⟩ hN3
          have hN6 : gN y6 := gN_net nH4 m3 (fun g hg => by unfold cR at hg; omega) ⟨T5, hy6, hb5⟩ hN5
          have f6u : fr uP y1 y6 := fr_tr f3u (fr_tr (fr_mono (fun g hg => by unfold cP at hg; unfold uP; omega) g2) (fr_mono (fun g hg => by unfold cR at hg; unfold uP; omega) m3))
          have hC6 : relC y6 St := relC_fr m3 (fun q hq h9 => by unfold cW at hq; unfold cR at h9; omega) (relC_fr g2 (fun q hq h9 => by unfold cW at hq; unfold cP at h9; omega) hC3)
          refine w_rdF m2 (w_rdF hy6.2.1 ?_)
          rw [nI_add, hrg]
          refine w_le (b := 6) (by omega) (by omega) (fun h6 => ?_) (fun h6 => w_some (Or.inr ⟨d, A, sg, hd, rfl, hSt, Or.inr ⟨i, v, w, by omega, rfl, hsm, Or.inl ⟨rfl, hN6, f6u, hC6, by omega⟩⟩⟩))
          refine w_tc1 (xc_free hN6.1 hC6 hS) ?_ ?_
          · rintro u y7 ⟨h7, rfl⟩
            rcases h7 with h7 | ⟨-, e, rfl, hl⟩
            · exact absurd (show (0 : Nat) = 3 from h7.1) (by decide)
            · have hnv : nv T5 := ⟨hv5, hc5, hb5, by omega⟩
              refine w_cs1 (tc_keep hN6 hl.1 hy6 hnv) ?_
              rintro r y8 ⟨q0, q1, q2, ⟨Cs, os, q3, q4⟩, q5, -⟩
              exact w_some (Or.inr ⟨d, A, sg, hd, rfl, hSt, Or.inr ⟨i, v, w, by omega, rfl, hsm, Or.inr ⟨h6, Or.inr ⟨rfl, e, hl, q0, q1, fr_tr f6u q2, ⟨T5, f', Cs, os, hnv, hpm5, hV5, hpl5, q3, q4⟩, fun d' C' h1 h2 h3 => q5 d' C' h1 h2 (slC_fr m3 (fun q hq h9 => by unfold cW at hq; unfold cR at h9; omega) (slC_fr g2 (fun q hq h9 => by unfold cW at hq; unfold cP at h9; omega) (slC_fr f3 (fun q hq h9 => by unfold cW at hq; unfold cL at h9; omega) h3)))⟩⟩⟩⟩)
          · rintro a u y7 ha ⟨h7, rfl⟩
            rcases h7 with h7 | h7
            · exact w_some (Or.inr ⟨d, A, sg, hd, rfl, hSt, Or.inr ⟨i, v, w, by omega, rfl, hsm, Or.inr ⟨h6, Or.inl ⟨h7.1, hN6, f6u, hC6, h7.2⟩⟩⟩⟩)
            · exact absurd h7.1 ha
        · exact absurd (show (0 : Nat) = 1 from h4.1) (by decide)
      · rintro a y4 ha ⟨h4, rfl⟩
        rcases h4 with h4 | h4
        · exact absurd h4.1 ha
        · exact w_some (Or.inr ⟨d, A, sg, hd, rfl, hSt, Or.inl ⟨h4.1, hN3, f3u, hC3, fun k hk => h4.2 k (by omega)⟩⟩)
  · rintro a y1 ha ⟨h1, rfl⟩
    rcases h1 with h1 | h1
    · exact w_some (Or.inl ⟨h1.1, hN, fr_rf, hC, h1.2⟩)
    · exact absurd h1.1 ha
end XSC
