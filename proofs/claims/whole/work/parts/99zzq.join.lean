/-! join -/
theorem rv_len {A : rn_L} {s : Nat} (hs : s < A.flatten.length) : rv A s (rlen A (rn_c A s)) = s := by
  obtain ⟨h1, h2, h3⟩ := rn_c_in A s hs
  unfold rv
  unfold rlen
  rw [if_neg (by omega)]
  omega
theorem rv_inj {A : rn_L} {s i j : Nat} (hs : s < A.flatten.length) (h1 : i < j) (h0 : 1 ≤ i) (h2 : j ≤ rlen A (rn_c A s)) : rv A s i ≠ rv A s j := by
  obtain ⟨a1, a2, a3⟩ := rn_c_in A s hs
  unfold rv
  unfold rlen at h2 ⊢
  by_cases c1 : s + i < rn_b A (rn_c A s + 1)
  · by_cases c2 : s + j < rn_b A (rn_c A s + 1)
    · rw [if_pos c1, if_pos c2]; omega
    · rw [if_pos c1, if_neg c2]; omega
  · by_cases c2 : s + j < rn_b A (rn_c A s + 1)
    · rw [if_neg c1, if_pos c2]; omega
    · rw [if_neg c1, if_neg c2]; omega
theorem rv_in2 {A : rn_L} {s j : Nat} (hs : s < A.flatten.length) (hj : j ≤ rlen A (rn_c A s)) : rn_b A (rn_c A s) ≤ rv A s j ∧ rv A s j < rn_b A (rn_c A s + 1) := by
  rcases Nat.lt_or_ge j (rlen A (rn_c A s)) with h | h
  · exact rv_in hs h
  · have : j = rlen A (rn_c A s) := by omega
    rw [this, rv_len hs]
    exact (rn_c_in A s hs).2
theorem rv_sur {A : rn_L} {s v : Nat} (hs : s < A.flatten.length) (h1 : rn_b A (rn_c A s) ≤ v) (h2 : v < rn_b A (rn_c A s + 1)) : ∃ j, 1 ≤ j ∧ j ≤ rlen A (rn_c A s) ∧ v = rv A s j := by
  obtain ⟨a1, a2, a3⟩ := rn_c_in A s hs
  have hv : v < A.flatten.length := by have := rn_b_le A (rn_c A s + 1); omega
  obtain ⟨j, hj, e⟩ := rgl_mem (rgl_all hs hv (rn_c_of A _ v h1 h2))
  by_cases h0 : j = 0
  · refine ⟨rlen A (rn_c A s), rlen_pos hs, Nat.le_refl _, ?_⟩
    rw [rv_len hs, e, h0, rv_0 hs]
  · exact ⟨j, by omega, by omega, e⟩
section PUBJ
variable {X : (Nat → Nat → Int32) → Prop} {z : ow_MS}
theorem u_X13_join_1 {x1 : Int32} {x2 : Int32} {x3 : Int32} {x4 : Int32} {x5 : Int32} {x6 : Int32} {x7 : Int32} {x8 : Int32} {t0 : Int32} {t1 : Int32} {z : ow_MS} {Q : (Int32 × ow_MS) → Prop} (H : Tt (fun K k => qm_X13_join_1 K (q_X13_join K k) x1 x2 x3 x4 x5 x6 x7 x8 t0 t1 z) Q) : Tt (fun K k => q_X13_join K k 1 x1 x2 x3 x4 x5 x6 x7 x8 t0 t1 z) Q := w_un (fun _ _ => rfl) H
theorem u_X13_join_2 {x1 : Int32} {x2 : Int32} {x3 : Int32} {x4 : Int32} {x5 : Int32} {x6 : Int32} {x7 : Int32} {x8 : Int32} {t0 : Int32} {t1 : Int32} {z : ow_MS} {Q : (Int32 × ow_MS) → Prop} (H : Tt (fun K k => qm_X13_join_2 K (q_X13_join K k) x1 x2 x3 x4 x5 x6 x7 x8 t0 t1 z) Q) : Tt (fun K k => q_X13_join K k 2 x1 x2 x3 x4 x5 x6 x7 x8 t0 t1 z) Q := w_un (fun _ _ => rfl) H
theorem u_X13_join_3 {x1 : Int32} {x2 : Int32} {x3 : Int32} {x4 : Int32} {x5 : Int32} {x6 : Int32} {x7 : Int32} {x8 : Int32} {t0 : Int32} {t1 : Int32} {z : ow_MS} {Q : (Int32 × ow_MS) → Prop} (H : Tt (fun K k => qm_X13_join_3 K (q_X13_join K k) x1 x2 x3 x4 x5 x6 x7 x8 t0 t1 z) Q) : Tt (fun K k => q_X13_join K k 3 x1 x2 x3 x4 x5 x6 x7 x8 t0 t1 z) Q := w_un (fun _ _ => rfl) H
theorem e_X13_join {x1 : Int32} {x2 : Int32} {x3 : Int32} {x4 : Int32} {z : ow_MS} {Q : (Int32 × ow_MS) → Prop} (H : Tt (fun K k => q_X13_join K k 0 x1 x2 x3 x4 0 0 0 0 0 0 z) Q) : Te (fun K => qe_X13_join K x1 x2 x3 x4 z) Q := w_te H
theorem u_X13_join_0 {x1 : Int32} {x2 : Int32} {x3 : Int32} {x4 : Int32} {x5 : Int32} {x6 : Int32} {x7 : Int32} {x8 : Int32} {t0 : Int32} {t1 : Int32} {z : ow_MS} {Q : (Int32 × ow_MS) → Prop} (H : Tt (fun K k => qm_X13_join_0 K (q_X13_join K k) x1 x2 x3 x4 x5 x6 x7 x8 t0 t1 z) Q) : Tt (fun K k => q_X13_join K k 0 x1 x2 x3 x4 x5 x6 x7 x8 t0 t1 z) Q := w_un (fun _ _ => rfl) H
theorem u_X13_join_11 {x1 : Int32} {x2 : Int32} {x3 : Int32} {x4 : Int32} {x5 : Int32} {x6 : Int32} {x7 : Int32} {x8 : Int32} {t0 : Int32} {t1 : Int32} {z : ow_MS} {Q : (Int32 × ow_MS) → Prop} (H : Tt (fun K k => qm_X13_join_11 K (q_X13_join K k) x1 x2 x3 x4 x5 x6 x7 x8 t0 t1 z) Q) : Tt (fun K k => q_X13_join K k 11 x1 x2 x3 x4 x5 x6 x7 x8 t0 t1 z) Q := w_un (fun _ _ => rfl) H
theorem u_X13_join_12 {x1 : Int32} {x2 : Int32} {x3 : Int32} {x4 : Int32} {x5 : Int32} {x6 : Int32} {x7 : Int32} {x8 : Int32} {t0 : Int32} {t1 : Int32} {z : ow_MS} {Q : (Int32 × ow_MS) → Prop} (H : Tt (fun K k => qm_X13_join_12 K (q_X13_join K k) x1 x2 x3 x4 x5 x6 x7 x8 t0 t1 z) Q) : Tt (fun K k => q_X13_join K k 12 x1 x2 x3 x4 x5 x6 x7 x8 t0 t1 z) Q := w_un (fun _ _ => rfl) H
theorem u_X13_join_8 {x1 : Int32} {x2 : Int32} {x3 : Int32} {x4 : Int32} {x5 : Int32} {x6 : Int32} {x7 : Int32} {x8 : Int32} {t0 : Int32} {t1 : Int32} {z : ow_MS} {Q : (Int32 × ow_MS) → Prop} (H : Tt (fun K k => qm_X13_join_8 K (q_X13_join K k) x1 x2 x3 x4 x5 x6 x7 x8 t0 t1 z) Q) : Tt (fun K k => q_X13_join K k 8 x1 x2 x3 x4 x5 x6 x7 x8 t0 t1 z) Q := w_un (fun _ _ => rfl) H
theorem u_X13_join_10 {x1 : Int32} {x2 : Int32} {x3 : Int32} {x4 : Int32} {x5 : Int32} {x6 : Int32} {x7 : Int32} {x8 : Int32} {t0 : Int32} {t1 : Int32} {z : ow_MS} {Q : (Int32 × ow_MS) → Prop} (H : Tt (fun K k => qm_X13_join_10 K (q_X13_join K k) x1 x2 x3 x4 x5 x6 x7 x8 t0 t1 z) Q) : Tt (fun K k => q_X13_join K k 10 x1 x2 x3 x4 x5 x6 x7 x8 t0 t1 z) Q := w_un (fun _ _ => rfl) H
theorem u_X13_join_9 {x1 : Int32} {x2 : Int32} {x3 : Int32} {x4 : Int32} {x5 : Int32} {x6 : Int32} {x7 : Int32} {x8 : Int32} {t0 : Int32} {t1 : Int32} {z : ow_MS} {Q : (Int32 × ow_MS) → Prop} (H : Tt (fun K k => qm_X13_join_9 K (q_X13_join K k) x1 x2 x3 x4 x5 x6 x7 x8 t0 t1 z) Q) : Tt (fun K k => q_X13_join K k 9 x1 x2 x3 x4 x5 x6 x7 x8 t0 t1 z) Q := w_un (fun _ _ => rfl) H
theorem u_X13_join_4 {x1 : Int32} {x2 : Int32} {x3 : Int32} {x4 : Int32} {x5 : Int32} {x6 : Int32} {x7 : Int32} {x8 : Int32} {t0 : Int32} {t1 : Int32} {z : ow_MS} {Q : (Int32 × ow_MS) → Prop} (H : Tt (fun K k => qm_X13_join_4 K (q_X13_join K k) x1 x2 x3 x4 x5 x6 x7 x8 t0 t1 z) Q) : Tt (fun K k => q_X13_join K k 4 x1 x2 x3 x4 x5 x6 x7 x8 t0 t1 z) Q := w_un (fun _ _ => rfl) H
theorem u_X13_join_5 {x1 : Int32} {x2 : Int32} {x3 : Int32} {x4 : Int32} {x5 : Int32} {x6 : Int32} {x7 : Int32} {x8 : Int32} {t0 : Int32} {t1 : Int32} {z : ow_MS} {Q : (Int32 × ow_MS) → Prop} (H : Tt (fun K k => qm_X13_join_5 K (q_X13_join K k) x1 x2 x3 x4 x5 x6 x7 x8 t0 t1 z) Q) : Tt (fun K k => q_X13_join K k 5 x1 x2 x3 x4 x5 x6 x7 x8 t0 t1 z) Q := w_un (fun _ _ => rfl) H
theorem u_X13_join_6 {x1 : Int32} {x2 : Int32} {x3 : Int32} {x4 : Int32} {x5 : Int32} {x6 : Int32} {x7 : Int32} {x8 : Int32} {t0 : Int32} {t1 : Int32} {z : ow_MS} {Q : (Int32 × ow_MS) → Prop} (H : Tt (fun K k => qm_X13_join_6 K (q_X13_join K k) x1 x2 x3 x4 x5 x6 x7 x8 t0 t1 z) Q) : Tt (fun K k => q_X13_join K k 6 x1 x2 x3 x4 x5 x6 x7 x8 t0 t1 z) Q := w_un (fun _ _ => rfl) H
theorem u_X13_join_7 {x1 : Int32} {x2 : Int32} {x3 : Int32} {x4 : Int32} {x5 : Int32} {x6 : Int32} {x7 : Int32} {x8 : Int32} {t0 : Int32} {t1 : Int32} {z : ow_MS} {Q : (Int32 × ow_MS) → Prop} (H : Tt (fun K k => qm_X13_join_7 K (q_X13_join K k) x1 x2 x3 x4 x5 x6 x7 x8 t0 t1 z) Q) : Tt (fun K k => q_X13_join K k 7 x1 x2 x3 x4 x5 x6 x7 x8 t0 t1 z) Q := w_un (fun _ _ => rfl) H
theorem tp_join {d v0 e w0 : Int32} (h : gI X z) : Te (fun K => qe_X13_join K d v0 e w0 z) (fun r => gI X r.2) := by
  have h1 := gI_1 (c := 0) h
  have c1 : ∀ y, gI X y → Tt (fun K k => q_X13_join K k 1 d v0 e w0 0 0 0 0 0 0 y) (fun r => gI X r.2) := by
    intro y hy
    refine u_X13_join_1 ?_; unfold qm_X13_join_1
    exact w_fail hy
  have c2 : ∀ y, gI X y → Tt (fun K k => q_X13_join K k 2 d v0 e w0 0 0 0 0 0 0 y) (fun r => gI X r.2) := by
    intro y hy
    refine u_X13_join_2 ?_; unfold qm_X13_join_2
    exact w_fail hy
  have c3 : ∀ y, gI X y → Tt (fun K k => q_X13_join K k 3 d v0 e w0 0 0 0 0 0 0 y) (fun r => gI X r.2) := by
    intro y hy
    refine u_X13_join_3 ?_; unfold qm_X13_join_3
    exact w_fail hy
  refine e_X13_join ?_
  refine u_X13_join_0 ?_; unfold qm_X13_join_0
  refine w_wrF (w_has h1.2.1 (w_ifT rfl (c1 _ h1)) (fun d9 A sg hd9 hx hv hne => w_ifF (by decide) (w_has h1.2.1 (w_ifT rfl (c1 _ h1)) (fun e9 B sg2 he9 hy hw hne2 => w_ifF (by decide) ?_))))
  subst hx
  subst hy
  refine w_cs0 (to_open pn1 hd9 hv) (fun z2 ⟨o1, f1⟩ => ?_)
  have h2 : gI X z2 := gI_net pn1 f1 (fun g hg => by omega) h1
  have hw2 : vRow z2 12 (32 * e9) B sg2 := ⟨rc_fr f1 (by omega) hw.1, hw.2⟩
  refine w_cs0 (to_open pn2 he9 hw2) (fun z3 ⟨o2, f2⟩ => ?_)
  have h3 : gI X z3 := gI_net pn2 f2 (fun g hg => by omega) h2
  have o1' := oNet_fr f2 (fun g hg => by omega) o1
  have l1 := o1.len
  have l2 := o2.len
  have k1 := o1.2.2.2
  have k2 := o2.2.2.2
  have hdB := wkF_ok o2.wk
  obtain ⟨a, ha, ha12⟩ := o1.2.2.1
  obtain ⟨b, hb, hb12⟩ := o2.2.2.1
  have hVa := okF_len ha
  have hVb := okF_len hb
  refine w_if (fun _ => c2 _ h3) (fun hv0 => w_rdF o1'.1.V (w_if (fun _ => c2 _ h3) (fun hv1 => w_if (fun _ => c2 _ h3) (fun hw0 => w_rdF o2.1.V (w_if (fun hw1 => w_rdF o1'.1.V (w_rdF o2.1.V ?_)) (fun _ => c2 _ h3))))))
  obtain ⟨v, hv31, rfl⟩ := nI_of hv0
  obtain ⟨w, hw31, rfl⟩ := nI_of hw0
  have hvl : v < A.flatten.length := by
    rcases Nat.lt_or_ge v A.flatten.length with h9 | h9
    · exact h9
    · exact absurd (nI_le h9 hv31) hv1
  have hwl : w < B.flatten.length := (nI_ltI hw31 (by omega)).mp hw1
  rw [nI_add]
  refine w_lt (a := 24) (by omega) (by omega) (fun _ => c3 _ h3) (fun h24 => w_rdF (lk_C o1'.1) (w_rdF (lk_C o2.1) ?_))
  have hne1 : 1 ≤ A.length + B.length := by
    have := (rn_c_in A v hvl).1
    omega
  rw [nI_add, show nI (A.length + B.length) - 1 = nI (A.length + B.length - 1) from pk_sub (b := 1) hne1]
  refine w_le (b := 6) (by omega) (by omega) (fun h6 => w_free (w_ifT rfl (w_fail h3)) (fun f hf hfr => w_ifF (rn_neg1 (by omega)) (w_rdF o1'.1.V (w_nzI (by decide) (w_cs0 (bm_clear (A := A12 A B a) pn3) (fun z4 ⟨b4, f4⟩ => ?_)))))) (fun _ => c3 _ h3)
  rw [show nI A.flatten.length / 2 = nI a from by rw [show nI A.flatten.length / 2 = nI (A.flatten.length / 2) from pk_div (d := 2) (by omega) (by omega) (by omega)]; congr 1; omega]
  have hlen := A12_len (A := A) (B := B) (s := a)
  let I : ow_MS → Prop := fun y => fr (fun g => 3001 ≤ g ∧ g ≤ 3006) z3 y
  have oA : ∀ {y : ow_MS}, I y → oNet y 1000 A sg := fun hf => oNet_fr hf (fun g hg => by omega) o1'
  have oB : ∀ {y : ow_MS}, I y → oNet y 2000 B sg2 := fun hf => oNet_fr hf (fun g hg => by omega) o2
  have addI : ∀ {y y2 : ow_MS}, I y → fr (fun g => g = 3000 + 1 ∨ g = 3000 + 4 ∨ g = 3000 + 5) y y2 → I y2 := fun hI hf => fr_tr hI (fr_mono (fun g hg => by omega) hf)
  have endI : ∀ {y y2 : ow_MS}, I y → fr (fun g => g = 3000 + 2 ∨ g = 3000 + 3) y y2 → I y2 := fun hI hf => fr_tr hI (fr_mono (fun g hg => by omega) hf)
  obtain ⟨hcw, p0, p1⟩ := rn_c_in B w hwl
  have hpB := rn_b_le B (rn_c B w + 1)
  have evA : ∀ i, i < A.flatten.length → crs (A12 A B a) i = crs A i ∧ uns (A12 A B a) i = uns A i := fun i hi => by
    unfold crs uns
    rw [A12_l hi]
    exact ⟨rfl, rfl⟩
  have evB : ∀ i, i < B.flatten.length → crs (A12 A B a) (A.flatten.length + i) = crs B i + a ∧ uns (A12 A B a) (A.flatten.length + i) = uns B i := fun i hi => by
    unfold crs uns
    rw [A12_r hi]
    exact ⟨rfl, rfl⟩
  -- the signs, and the end
  have l11 : ∀ (k x : Nat) (y : ow_MS), x + k = 20 → I y → bmE y 3000 (A12 A B a) (fun j => j < A.flatten.length + B.flatten.length) (A.length + B.length - 1) → (∀ x', x' < x → y.2.1 3006 x' = if x' < a then z3.2.1 1006 x' else z3.2.1 2006 (x' - a)) → Tt (fun K i => q_X13_join K i 11 (nI d9) (nI v) (nI e9) (nI w) (nI a) (nI x) 0 0 0 0 y) (fun r => gI X r.2) := by
    intro k
    induction k with
    | zero =>
      intro x y hx hI hb9 hs
      have ok12 := A12_ok ha hb
      have wk12 := okF_wk (by omega) ok12
      refine u_X13_join_11 ?_; unfold qm_X13_join_11
      refine w_leT (a := 20) (by omega) (by omega) (w_keep (gI_net pn3 hI (fun g hg => by omega) h3) (frD_eq (hI 12 (by omega)).2.1 hfr) ?_)
      have hP : ∀ j, j < A.flatten.length + B.flatten.length → j < (A12 A B a).flatten.length := fun j hj => by omega
      have hm : ∀ j, j < A.flatten.length + B.flatten.length → mtf (A12 A B a) j < A.flatten.length + B.flatten.length := fun j hj => by
        have := mtf_lt (wkF_ok wk12) (hP j hj)
        omega
      have hsg : ∀ j, j < A.flatten.length + B.flatten.length → s1 (y.2.1 (3000 + 6) (crs (A12 A B a) j)) := by
        intro j hj
        show s1 (y.2.1 3006 (crs (A12 A B a) j))
        by_cases hja : j < A.flatten.length
        · obtain ⟨x1, x2, x3⟩ := o1'.cx hja
          have hca : crs A j < a := ((ha.2 _).mp (List.mem_of_getElem? (vAt_of hja))).1
          rw [(evA j hja).1, hs _ (by omega), if_pos hca]
          exact s1_if x3
        · obtain ⟨i, rfl⟩ : ∃ i, j = A.flatten.length + i := ⟨j - A.flatten.length, by omega⟩
          have hib : i < B.flatten.length := by omega
          obtain ⟨x1, x2, x3⟩ := o2.cx hib
          have hcb : crs B i < b := ((hb.2 _).mp (List.mem_of_getElem? (vAt_of hib))).1
          rw [(evB i hib).1, hs _ (by omega), if_neg (by omega), Nat.add_sub_cancel]
          exact s1_if x3
      exact bmE_net wk12 (by omega) (by omega) hP hm hsg hb9
    | succ k ih =>
      intro x y hx hI hb9 hs
      have c12 : ∀ t0 : Int32, t0 = (if x < a then z3.2.1 1006 x else z3.2.1 2006 (x - a)) → Tt (fun K i => q_X13_join K i 12 (nI d9) (nI v) (nI e9) (nI w) (nI a) (nI x) 0 0 t0 (nI x) y) (fun r => gI X r.2) := by
        intro t0 ht0
        refine u_X13_join_12 ?_; unfold qm_X13_join_12
        refine w_wrI (pl6 pn3) rfl (by omega) ?_
        rw [nI_1]
        refine ih (x + 1) _ (by omega) (fr_I2 hI (by omega)) (bmE_fr (F := fun g => g = 3006) (fr_I rfl) (fun g hg => by omega) hb9) (fun x' hx' => ?_)
        by_cases he : x' = x
        · rw [he, ← ht0]
          exact po_usI_at
        · exact rd_ne he (hs x' (by omega))
      refine u_X13_join_11 ?_; unfold qm_X13_join_11
      refine w_leF (a := 20) (by omega) (by omega) (w_le (by omega) (by omega) (fun h9 => ?_) (fun h9 => ?_))
      · rw [pk_sub h9]
        refine w_rdI (pl6 pn2) rfl (by omega) rfl (c12 _ ?_)
        rw [if_neg (by omega)]
        exact congrFun (hI 2006 (by omega)).2.1 _
      · refine w_rdI (pl6 pn1) rfl (by omega) rfl (c12 _ ?_)
        rw [if_pos h9]
        exact congrFun (hI 1006 (by omega)).2.1 _
  -- the other components of the second net
  have l8 : ∀ (k m q : Nat) (y : ow_MS), m + k = B.length → q + (if rn_c B w < m then 1 else 0) = A.length + m → I y → bmE y 3000 (A12 A B a) (fun j => j < A.flatten.length + rn_b B m ∨ A.flatten.length + rn_b B (rn_c B w) ≤ j ∧ j < A.flatten.length + rn_b B (rn_c B w + 1)) q → Tt (fun K i => q_X13_join K i 8 (nI d9) (nI v) (nI e9) (nI w) (nI a) (nI m) 0 0 0 0 y) (fun r => gI X r.2) := by
    intro k
    induction k with
    | zero =>
      intro m q y hm hq hI hb9
      have hme : m = B.length := by omega
      rw [hme, rn_b_len] at hb9
      rw [if_pos (by omega)] at hq
      refine u_X13_join_8 ?_; unfold qm_X13_join_8
      refine w_rdF (lk_C (oB hI).1) (w_leT (by omega) (by omega) (l11 20 0 y (by omega) hI ?_ (fun x hx => by omega)))
      have hqe : A.length + B.length - 1 = q := by omega
      rw [hqe]
      exact bmE_eq hb9 (fun j => by omega)
    | succ k ih =>
      intro m q y hm hq hI hb9
      have hmB : m < B.length := by omega
      have m1 := rn_b_mono B m
      have m2 := rn_b_le B (m + 1)
      have hqb : q ≤ A.length + m := by omega
      refine u_X13_join_8 ?_; unfold qm_X13_join_8
      refine w_rdF (lk_C (oB hI).1) (w_leF (by omega) (by omega) (w_rdI (pl8 pn2) rfl (by omega) (lk_c (oB hI).1 hwl) (w_eqN (by omega) (by omega) (fun h9 => ?_) (fun h9 => w_rdI (pl3 pn2) rfl (by omega) (lk_b (oB hI).1 (by omega)) ?_))))
      · refine u_X13_join_10 ?_; unfold qm_X13_join_10
        rw [nI_1]
        refine ih (m + 1) q y (by omega) ?_ hI (bmE_eq hb9 (fun j => ?_))
        · rw [if_neg (by omega)] at hq
          rw [if_pos (by omega)]
          omega
        · rw [← h9]
          omega
      · have hdis : rn_b B (m + 1) ≤ rn_b B (rn_c B w) ∨ rn_b B (rn_c B w + 1) ≤ rn_b B m := by
          rcases Nat.lt_or_ge m (rn_c B w) with h8 | h8
          · exact Or.inl (rn_b_mono2 (by omega))
          · exact Or.inr (rn_b_mono2 (by omega))
        have l9 : ∀ (k i : Nat) (y : ow_MS), i + k = rn_b B (m + 1) → rn_b B m ≤ i → I y → bm y 3000 (A12 A B a) (fun j => j < A.flatten.length + i ∨ A.flatten.length + rn_b B (rn_c B w) ≤ j ∧ j < A.flatten.length + rn_b B (rn_c B w + 1)) q → Tt (fun K i9 => q_X13_join K i9 9 (nI d9) (nI v) (nI e9) (nI w) (nI a) (nI m) (nI i) 0 0 0 y) (fun r => gI X r.2) := by
          intro k
          induction k with
          | zero =>
            intro i y hi hlo hI hb9
            have hie : i = rn_b B (m + 1) := by omega
            rw [hie] at hb9 ⊢
            refine u_X13_join_9 ?_; unfold qm_X13_join_9
            rw [nI_1]
            refine w_rdI (pl3 pn2) rfl (by omega) (lk_b (oB hI).1 (by omega)) (w_leT (by omega) (Nat.le_refl _) (w_cs0 (bm_end pn3 (by omega) hb9) (fun y2 ⟨g1, g2⟩ => ?_)))
            refine u_X13_join_10 ?_; unfold qm_X13_join_10
            rw [nI_1]
            refine ih (m + 1) (q + 1) y2 (by omega) ?_ (endI hI g2) g1
            by_cases hlt : rn_c B w < m
            · rw [if_pos hlt] at hq
              rw [if_pos (by omega)]
              omega
            · rw [if_neg hlt] at hq
              rw [if_neg (by omega)]
              omega
          | succ k ihk =>
            intro i y hi hlo hI hb9
            have hil : i < B.flatten.length := by omega
            refine u_X13_join_9 ?_; unfold qm_X13_join_9
            rw [nI_1]
            refine w_rdI (pl3 pn2) rfl (by omega) (lk_b (oB hI).1 (by omega)) (w_leF (by omega) (by omega) (w_rdI (pl4 pn2) rfl (by omega) (lk_cu (oB hI).1 hil).1 (w_rdI (pl5 pn2) rfl (by omega) (lk_cu (oB hI).1 hil).2 (w_cs0 (bm_add (i := A.flatten.length + i) pn3 (by omega) (fun j hj => by omega) (by omega) (by rw [nI_add, (evB i hil).1]) (by rw [(evB i hil).2]) hb9) (fun y2 ⟨g1, g2⟩ => ?_)))))
            rw [nI_1]
            exact ihk (i + 1) y2 (by omega) (by omega) (addI hI g2) (bm_eq g1 (fun j => by omega))
        exact l9 (rn_b B (m + 1) - rn_b B m) (rn_b B m) y (by omega) (Nat.le_refl _) hI hb9.b
  -- the first net, with the ring of w behind v
  have l4 : ∀ (k m : Nat) (y : ow_MS), m + k = A.length → I y → bmE y 3000 (A12 A B a) (fun j => j < rn_b A m ∨ v < rn_b A m ∧ A.flatten.length + rn_b B (rn_c B w) ≤ j ∧ j < A.flatten.length + rn_b B (rn_c B w + 1)) m → Tt (fun K i => q_X13_join K i 4 (nI d9) (nI v) (nI e9) (nI w) (nI a) (nI m) 0 0 0 0 y) (fun r => gI X r.2) := by
    intro k
    induction k with
    | zero =>
      intro m y hm hI hb9
      have hme : m = A.length := by omega
      rw [hme, rn_b_len] at hb9
      refine u_X13_join_4 ?_; unfold qm_X13_join_4
      exact w_rdF (lk_C (oA hI).1) (w_leT (by omega) (by omega) (l8 B.length 0 A.length y (by omega) (by rw [if_neg (by omega)]) hI (bmE_eq hb9 (fun j => by rw [rn_b0]; omega))))
    | succ k ih =>
      intro m y hm hI hb9
      have m1 := rn_b_mono A m
      have m2 := rn_b_le A (m + 1)
      have l5 : ∀ (k i : Nat) (y : ow_MS), i + k = rn_b A (m + 1) → rn_b A m ≤ i → I y → bm y 3000 (A12 A B a) (fun j => j < i ∨ v < i ∧ A.flatten.length + rn_b B (rn_c B w) ≤ j ∧ j < A.flatten.length + rn_b B (rn_c B w + 1)) m → Tt (fun K i9 => q_X13_join K i9 5 (nI d9) (nI v) (nI e9) (nI w) (nI a) (nI m) (nI i) 0 0 0 y) (fun r => gI X r.2) := by
        intro k
        induction k with
        | zero =>
          intro i y hi hlo hI hb9
          have hie : i = rn_b A (m + 1) := by omega
          rw [hie] at hb9 ⊢
          refine u_X13_join_5 ?_; unfold qm_X13_join_5
          rw [nI_1]
          exact w_rdI (pl3 pn1) rfl (by omega) (lk_b (oA hI).1 (by omega)) (w_leT (by omega) (Nat.le_refl _) (w_cs0 (bm_end pn3 (by omega) hb9) (fun y2 ⟨g1, g2⟩ => ih (m + 1) y2 (by omega) (endI hI g2) g1)))
        | succ k ihk =>
          intro i y hi hlo hI hb9
          have hil : i < A.flatten.length := by omega
          refine u_X13_join_5 ?_; unfold qm_X13_join_5
          rw [nI_1]
          refine w_rdI (pl3 pn1) rfl (by omega) (lk_b (oA hI).1 (by omega)) (w_leF (by omega) (by omega) (w_rdI (pl4 pn1) rfl (by omega) (lk_cu (oA hI).1 hil).1 (w_rdI (pl5 pn1) rfl (by omega) (lk_cu (oA hI).1 hil).2 (w_cs0 (bm_add (i := i) pn3 (by omega) (fun j hj => by omega) (by omega) (by rw [(evA i hil).1]) (by rw [(evA i hil).2]) hb9) (fun y2 ⟨g1, g2⟩ => w_eqN (by omega) (by omega) (fun h9 => ?_) (fun h9 => ?_))))))
          · -- the ring
            have hrl := rlen_pos hwl
            have l6 : ∀ (k t : Nat) (y : ow_MS), t + 1 + k = rlen B (rn_c B w) → I y → bm y 3000 (A12 A B a) (fun j => j < i + 1 ∨ ∃ s, 1 ≤ s ∧ s ≤ t ∧ j = A.flatten.length + rv B w s) m → Tt (fun K i9 => q_X13_join K i9 6 (nI d9) (nI v) (nI e9) (nI w) (nI a) (nI m) (nI i) (nI (rv B w t)) 0 0 y) (fun r => gI X r.2) := by
              intro k
              induction k with
              | zero =>
                intro t y ht hI hb8
                have htl : t < rlen B (rn_c B w) := by omega
                have hnx := rv_nx hwl htl
                rw [if_pos (by omega)] at hnx
                have hrt := rv_lt hwl htl
                refine u_X13_join_6 ?_; unfold qm_X13_join_6
                refine w_rdI (pl9 pn2) rfl (by omega) (lk_n (oB hI).1 hrt) ?_
                rw [hnx]
                refine w_rdI (pl4 pn2) rfl (by omega) (lk_cu (oB hI).1 hwl).1 (w_rdI (pl5 pn2) rfl (by omega) (lk_cu (oB hI).1 hwl).2 (w_cs0 (bm_add (i := A.flatten.length + w) pn3 (by omega) (fun j hj => ?_) (fun hj => ?_) (by rw [nI_add, (evB w hwl).1]) (by rw [(evB w hwl).2]) hb8) (fun y2 ⟨g1, g2⟩ => w_ifT rfl ?_)))
                · rcases hj with hj | ⟨s, s1, s2, s3⟩
                  · omega
                  · have := rv_lt hwl (show s < rlen B (rn_c B w) by omega)
                    omega
                · rcases hj with hj | ⟨s, s1, s2, s3⟩
                  · omega
                  · exact rv_ne hwl (by omega) (by omega) (show rv B w s = w by omega)
                · refine u_X13_join_7 ?_; unfold qm_X13_join_7
                  rw [nI_1]
                  refine ihk (i + 1) y2 (by omega) (by omega) (addI hI g2) (bm_eq g1 (fun j => ?_))
                  constructor
                  · rintro ((h8 | ⟨s, s1, s2, s3⟩) | h8)
                    · exact Or.inl h8
                    · have := rv_in hwl (show s < rlen B (rn_c B w) by omega)
                      exact Or.inr (by omega)
                    · exact Or.inr (by omega)
                  · rintro (h8 | ⟨h7, h8, h9⟩)
                    · exact Or.inl (Or.inl h8)
                    · obtain ⟨s, s1, s2, s3⟩ := rv_sur hwl (v := j - A.flatten.length) (by omega) (by omega)
                      by_cases hsl : s = rlen B (rn_c B w)
                      · rw [hsl, rv_len hwl] at s3
                        exact Or.inr (by omega)
                      · exact Or.inl (Or.inr ⟨s, s1, by omega, by omega⟩)
              | succ k ihr =>
                intro t y ht hI hb8
                have htl : t < rlen B (rn_c B w) := by omega
                have hnx := rv_nx hwl htl
                rw [if_neg (by omega)] at hnx
                have hrt := rv_lt hwl htl
                have hr1 := rv_lt hwl (show t + 1 < rlen B (rn_c B w) by omega)
                have hrn := rv_ne hwl (show t + 1 < rlen B (rn_c B w) by omega) (by omega)
                refine u_X13_join_6 ?_; unfold qm_X13_join_6
                refine w_rdI (pl9 pn2) rfl (by omega) (lk_n (oB hI).1 hrt) ?_
                rw [hnx]
                refine w_rdI (pl4 pn2) rfl (by omega) (lk_cu (oB hI).1 hr1).1 (w_rdI (pl5 pn2) rfl (by omega) (lk_cu (oB hI).1 hr1).2 (w_cs0 (bm_add (i := A.flatten.length + rv B w (t + 1)) pn3 (by omega) (fun j hj => ?_) (fun hj => ?_) (by rw [nI_add, (evB _ hr1).1]) (by rw [(evB _ hr1).2]) hb8) (fun y2 ⟨g1, g2⟩ => w_ifF (fun e9 => hrn ((nI_eq (by omega) (by omega)).mp e9)) (ihr (t + 1) y2 (by omega) (addI hI g2) (bm_eq g1 (fun j => ?_))))))
                · rcases hj with hj | ⟨s, s1, s2, s3⟩
                  · omega
                  · have := rv_lt hwl (show s < rlen B (rn_c B w) by omega)
                    omega
                · rcases hj with hj | ⟨s, s1, s2, s3⟩
                  · omega
                  · exact rv_inj hwl (show s < t + 1 by omega) s1 (by omega) (by omega)
                · constructor
                  · rintro ((h8 | ⟨s, s1, s2, s3⟩) | h8)
                    · exact Or.inl h8
                    · exact Or.inr ⟨s, s1, by omega, s3⟩
                    · exact Or.inr ⟨t + 1, by omega, Nat.le_refl _, h8⟩
                  · rintro (h8 | ⟨s, s1, s2, s3⟩)
                    · exact Or.inl (Or.inl h8)
                    · by_cases hst : s = t + 1
                      · rw [hst] at s3
                        exact Or.inr s3
                      · exact Or.inl (Or.inr ⟨s, s1, by omega, s3⟩)
            have := l6 (rlen B (rn_c B w) - 1) 0 y2 (by omega) (addI hI g2) (bm_eq g1 (fun j => by
              constructor
              · rintro ((h8 | h8) | h8)
                · exact Or.inl (by omega)
                · omega
                · exact Or.inl (by omega)
              · rintro (h8 | ⟨s, s1, s2, s3⟩)
                · by_cases hji : j = i
                  · exact Or.inr hji
                  · exact Or.inl (Or.inl (by omega))
                · omega))
            rw [rv_0 hwl] at this
            exact this
          · refine u_X13_join_7 ?_; unfold qm_X13_join_7
            rw [nI_1]
            exact ihk (i + 1) y2 (by omega) (by omega) (addI hI g2) (bm_eq g1 (fun j => by omega))
      refine u_X13_join_4 ?_; unfold qm_X13_join_4
      exact w_rdF (lk_C (oA hI).1) (w_leF (by omega) (by omega) (w_rdI (pl3 pn1) rfl (by omega) (lk_b (oA hI).1 (by omega)) (l5 (rn_b A (m + 1) - rn_b A m) (rn_b A m) y (by omega) (Nat.le_refl _) hI hb9.b)))
  exact l4 A.length 0 z4 (by omega) (fr_mono (fun g hg => by omega) f4) (bmE_eq b4 (fun j => ⟨fun h9 => h9.elim, fun h9 => by rw [rn_b0] at h9; omega⟩))
end PUBJ
