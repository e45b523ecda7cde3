/-! public methods of the reference: feed .. visit .. join have an answer -/
section PUBA
variable {X : (Nat → Nat → Int32) → Prop} {z : ow_MS}
theorem u_X13_feed_1 {x1 : Int32} {x2 : Int32} {x3 : Int32} {x4 : Int32} {x5 : Int32} {x6 : Int32} {t0 : Int32} {z : ow_MS} {Q : (Int32 × ow_MS) → Prop} (H : Tt (fun K k => qm_X13_feed_1 K (q_X13_feed K k) x1 x2 x3 x4 x5 x6 t0 z) Q) : Tt (fun K k => q_X13_feed K k 1 x1 x2 x3 x4 x5 x6 t0 z) Q := w_un (fun _ _ => rfl) H
theorem u_X13_feed_2 {x1 : Int32} {x2 : Int32} {x3 : Int32} {x4 : Int32} {x5 : Int32} {x6 : Int32} {t0 : Int32} {z : ow_MS} {Q : (Int32 × ow_MS) → Prop} (H : Tt (fun K k => qm_X13_feed_2 K (q_X13_feed K k) x1 x2 x3 x4 x5 x6 t0 z) Q) : Tt (fun K k => q_X13_feed K k 2 x1 x2 x3 x4 x5 x6 t0 z) Q := w_un (fun _ _ => rfl) H
theorem e_X13_feed {x1 : Int32} {x2 : Int32} {x3 : Int32} {x4 : Int32} {x5 : Int32} {z : ow_MS} {Q : (Int32 × ow_MS) → Prop} (H : Tt (fun K k => q_X13_feed K k 0 x1 x2 x3 x4 x5 0 0 z) Q) : Te (fun K => qe_X13_feed K x1 x2 x3 x4 x5 z) Q := w_te H
theorem u_X13_feed_0 {x1 : Int32} {x2 : Int32} {x3 : Int32} {x4 : Int32} {x5 : Int32} {x6 : Int32} {t0 : Int32} {z : ow_MS} {Q : (Int32 × ow_MS) → Prop} (H : Tt (fun K k => qm_X13_feed_0 K (q_X13_feed K k) x1 x2 x3 x4 x5 x6 t0 z) Q) : Tt (fun K k => q_X13_feed K k 0 x1 x2 x3 x4 x5 x6 t0 z) Q := w_un (fun _ _ => rfl) H
theorem tp_feed {a b c d e : Int32} (h : gI X z) : Te (fun K => qe_X13_feed K a b c d e z) (fun r => gI X r.2) := by
  have key : ∀ (k i t : Nat) (z1 : ow_MS), i + k = 20 → t + k ≤ 400 → z1.1 11 = nI t → gI X z1 → Tt (fun K j => q_X13_feed K j 1 a b c d e (nI i) 0 z1) (fun r => gI X r.2) := by
    intro k
    induction k with
    | zero =>
      intro i t z1 hi ht h11 hI
      refine u_X13_feed_1 ?_; unfold qm_X13_feed_1
      exact w_leT (a := 20) (by omega) (by omega) (w_rdF rfl (w_some hI))
    | succ k ih =>
      intro i t z1 hi ht h11 hI
      have c2 : ∀ w : Int32, Tt (fun K j => q_X13_feed K j 2 a b c d e (nI i) w z1) (fun r => gI X r.2) := by
        intro w
        refine u_X13_feed_2 ?_; unfold qm_X13_feed_2
        rw [nI_1]
        refine w_rdF h11 (w_wrB ml10 rfl (by omega) (w_rdF h11 (w_wrF ?_)))
        rw [nI_1]
        refine ih (i + 1) (t + 1) _ (by omega) (by omega) po_usF_at ?_
        have h1 : gI X (usI z1 10 t (vp_nar .byte (w >>> ((24 - 8 * (nI i &&& 3)) &&& 31)).toInt8.toInt32)) := gI_fr (P := fun g => g = 10) (fr_I rfl) (fun g hg => by rw [hg]; decide) hI
        obtain ⟨-, r⟩ := h1
        have hf : ∀ y : ow_MS, fr (fun g => g = 11) y (usF y 11 (nI (t + 1))) := fun y => fr_F rfl
        exact ⟨⟨t + 1, by omega, po_usF_at⟩, gRows_fr (hf _) (by decide) r.1, gList_fr (hf _) (by decide) (by decide) (by decide) r.2.1, gSum_fr (hf _) (by decide) (by decide) (by decide) r.2.2.1, gCash_fr (hf _) (by decide) (by decide) (by decide) (by decide) (by decide) r.2.2.2.1, gBrs_fr (hf _) (by decide) (by decide) (by decide) r.2.2.2.2.1, r.2.2.2.2.2⟩
      refine u_X13_feed_1 ?_; unfold qm_X13_feed_1
      exact w_leF (a := 20) (by omega) (by omega) (w_if (fun _ => w_if (fun _ => w_if (fun _ => w_if (fun _ => c2 _) (fun _ => c2 _)) (fun _ => c2 _)) (fun _ => c2 _)) (fun _ => c2 _))
  obtain ⟨t, ht, h11⟩ := h.1
  refine e_X13_feed ?_
  refine u_X13_feed_0 ?_; unfold qm_X13_feed_0
  refine w_wrF (w_rdF (x := nI t) (rf_ot (by omega) h11) ?_)
  rw [show nI t + 20 = nI (t + 20) from nI_add t 20]
  exact w_le (b := 400) (by omega) (by omega) (fun h9 => key 20 0 t _ (by omega) h9 (rf_ot (by omega) h11) (gI_1 h)) (fun h9 => w_fail (gI_1 h))
theorem gI_t {t : Nat} {x : Int32} (hx : x = nI t) (ht : t ≤ 400) (h : gI X z) : gI X (usF z 11 x) := by
  subst hx
  have hf : fr (fun g => g = 11) z (usF z 11 (nI t)) := fr_F rfl
  obtain ⟨-, r⟩ := h
  exact ⟨⟨t, ht, po_usF_at⟩, gRows_fr hf (by decide) r.1, gList_fr hf (by decide) (by decide) (by decide) r.2.1, gSum_fr hf (by decide) (by decide) (by decide) r.2.2.1, gCash_fr hf (by decide) (by decide) (by decide) (by decide) (by decide) r.2.2.2.1, gBrs_fr hf (by decide) (by decide) (by decide) r.2.2.2.2.1, r.2.2.2.2.2⟩
theorem u_X13_end_1 {x1 : Int32} {z : ow_MS} {Q : ow_MS → Prop} (H : Tt (fun K k => qm_X13_end_1 K (q_X13_end K k) x1 z) Q) : Tt (fun K k => q_X13_end K k 1 x1 z) Q := w_un (fun _ _ => rfl) H
theorem e_X13_end {x1 : Int32} {z : ow_MS} {Q : ow_MS → Prop} (H : Tt (fun K k => q_X13_end K k 0 x1 z) Q) : Te (fun K => qe_X13_end K x1 z) Q := w_te H
theorem u_X13_end_0 {x1 : Int32} {z : ow_MS} {Q : ow_MS → Prop} (H : Tt (fun K k => qm_X13_end_0 K (q_X13_end K k) x1 z) Q) : Tt (fun K k => q_X13_end K k 0 x1 z) Q := w_un (fun _ _ => rfl) H
theorem tp_end {n : Int32} (h : gI X z) : Te (fun K => qe_X13_end K n z) (fun r => gI X r) := by
  obtain ⟨t, ht, h11⟩ := h.1
  have c1 : Tt (fun K k => q_X13_end K k 1 n (usF z 1 0)) (fun r => gI X r) := by
    refine u_X13_end_1 ?_; unfold qm_X13_end_1
    refine w_cs1 tm_fails (fun a z1 e => ?_)
    cases e
    exact w_some (gI_1 (gI_1 h))
  refine e_X13_end ?_
  refine u_X13_end_0 ?_; unfold qm_X13_end_0
  refine w_wrF (w_if (fun _ => c1) (fun h0 => w_rdF (x := nI t) (rf_ot (by omega) h11) (w_if (fun h1 => w_wrF (w_some ?_)) (fun _ => c1))))
  obtain ⟨j, hj, rfl⟩ := nI_of h0
  exact gI_t rfl (by have := (nI_leI (by omega) (by omega)).mp h1; omega) (gI_1 h)
theorem e_X13_drop {x1 : Int32} {z : ow_MS} {Q : (Int32 × ow_MS) → Prop} (H : Tt (fun K _ => qm_X13_drop_0 K x1 z) Q) : Te (fun K => qe_X13_drop K x1 z) Q := w_te0 H
theorem tp_drop {d : Int32} (h : gI X z) : Te (fun K => qe_X13_drop K d z) (fun r => gI X r.2) := by
  refine e_X13_drop ?_; unfold qm_X13_drop_0
  refine w_wrF (w_cs1 (tm_has (gI_1 h).2.1) (fun a z1 ⟨e, h9⟩ => ?_))
  have e : z1 = usF z 1 0 := e
  subst e
  rcases h9 with h9 | ⟨h9, d, A, sg, hd, rfl, hv, -⟩
  · have h9 : a = 0 := h9
    exact w_ifT h9 (w_okZ (Or.inl h9) (w_some (gI_1 h)))
  · have h9 : a = 1 := h9
    rw [show (32 : Int32) * nI d = nI (32 * d) from pk_mul 32 d]
    refine w_ifF (by rw [h9]; decide) (w_wrI ml12 rfl (by omega) (w_okZ (Or.inr h9) (w_some ?_)))
    exact gI_rows (P := fun g => g = 12) (fr_I rfl) (fun g hg => Or.inl hg) (gRows_put (d := d) (dRow_0 po_usI_at) (fun i hi => po_usI_ne (by omega)) (gI_1 h).2.1) (gI_1 h)
/-- the beginning that most methods share -/
theorem w_has {O : Type} {x : Int32} {Q : O → Prop} {B : Int32 → ow_MS → Nat → Nat → Option O} (h : gRows z) (H0 : Tt (B 0 z) Q) (H1 : ∀ d A sg, d < 40 → x = nI d → vRow z 12 (32 * d) A sg → A ≠ [] → Tt (B 1 z) Q) : Tt (fun K k => cs1 (qe_X13_has K x z) fun v z1 => B v z1 K k) Q := by
  refine w_cs1 (tm_has h) (fun a z1 ⟨e, h9⟩ => ?_)
  have e : z1 = z := e
  subst e
  rcases h9 with h9 | ⟨h9, d, A, sg, hd, he, hv, hne⟩
  · have h9 : a = 0 := h9
    rw [h9]
    exact H0
  · have h9 : a = 1 := h9
    rw [h9]
    exact H1 d A sg hd he hv hne
/-- a place is looked for: none, or one that keep will find again -/
theorem w_free {O : Type} {Q : O → Prop} {B : Int32 → ow_MS → Nat → Nat → Option O} (H0 : Tt (B (-1) z) Q) (H1 : ∀ d, d < 40 → frD z → Tt (B (nI d) z) Q) : Tt (fun K k => cs1 (qe_X13_free K z) fun v z1 => B v z1 K k) Q := by
  refine w_cs1 tm_free (fun a z1 ⟨e, h2⟩ => ?_)
  have e : z1 = z := e
  subst e
  rcases h2 with ⟨h2, -⟩ | ⟨d, hd, h2, h3, -⟩
  · have h2 : a = -1 := h2
    rw [h2]
    exact H0
  · have h2 : a = nI d := h2
    rw [h2]
    exact H1 d hd ⟨d, hd, h3⟩
theorem w_keep (h : gI X z) (hf : frD z) (hM : mNet z 3000) : Tt (fun K _ => cs1 (qe_X13_keep K z) fun v z1 => some (v, z1)) (fun r => gI X r.2) := w_cs1 (tm_keep h hf hM) (fun _ _ h9 => w_some h9.1)
theorem u_X13_circlesOf_1 {x2 : Int32} {x3 : Int32} {r1 : Nat} {t0 : Int32} {t1 : Int32} {z : ow_MS} {Q : (Int32 × ow_MS) → Prop} (H : Tt (fun K k => qm_X13_circlesOf_1 K (q_X13_circlesOf K k) x2 x3 r1 t0 t1 z) Q) : Tt (fun K k => q_X13_circlesOf K k 1 x2 x3 r1 t0 t1 z) Q := w_un (fun _ _ => rfl) H
theorem u_X13_circlesOf_2 {x2 : Int32} {x3 : Int32} {r1 : Nat} {t0 : Int32} {t1 : Int32} {z : ow_MS} {Q : (Int32 × ow_MS) → Prop} (H : Tt (fun K k => qm_X13_circlesOf_2 K (q_X13_circlesOf K k) x2 x3 r1 t0 t1 z) Q) : Tt (fun K k => q_X13_circlesOf K k 2 x2 x3 r1 t0 t1 z) Q := w_un (fun _ _ => rfl) H
theorem e_X13_circlesOf {r1 : Nat} {z : ow_MS} {Q : (Int32 × ow_MS) → Prop} (H : Tt (fun K k => q_X13_circlesOf K k 0 0 0 r1 0 0 z) Q) : Te (fun K => qe_X13_circlesOf K r1 z) Q := w_te H
theorem u_X13_circlesOf_0 {x2 : Int32} {x3 : Int32} {r1 : Nat} {t0 : Int32} {t1 : Int32} {z : ow_MS} {Q : (Int32 × ow_MS) → Prop} (H : Tt (fun K k => qm_X13_circlesOf_0 K (q_X13_circlesOf K k) x2 x3 r1 t0 t1 z) Q) : Tt (fun K k => q_X13_circlesOf K k 0 x2 x3 r1 t0 t1 z) Q := w_un (fun _ _ => rfl) H
theorem tp_circles {n : Nat} {A : rn_L} (hn : mw_net n) (hlen : A.flatten.length ≤ 40) (hcn : A.length ≤ 39) (hA : rn_lk z n A) : Te (fun K => qe_X13_circlesOf K n z) (fun r => r.2 = z ∧ ∃ k, k ≤ A.length ∧ r.1 = nI k) := by
  have key : ∀ (d c k : Nat), c + d = A.length → k ≤ c → Tt (fun K i => q_X13_circlesOf K i 1 (nI k) (nI c) n 0 0 z) (fun r => r.2 = z ∧ ∃ k, k ≤ A.length ∧ r.1 = nI k) := by
    intro d
    induction d with
    | zero =>
      intro c k hc hk
      refine u_X13_circlesOf_1 ?_; unfold qm_X13_circlesOf_1
      exact w_rdF (lk_C hA) (w_leT (by omega) (by omega) (w_some ⟨rfl, k, by omega, rfl⟩))
    | succ d ih =>
      intro c k hc hk
      refine u_X13_circlesOf_1 ?_; unfold qm_X13_circlesOf_1
      refine w_rdF (lk_C hA) (w_leF (by omega) (by omega) (w_cs1 (tn_circle hn hlen hcn (by omega) hA.1) (fun a z1 e => ?_)))
      cases e
      refine w_if (fun _ => ?_) (fun _ => ?_)
      · refine u_X13_circlesOf_2 ?_; unfold qm_X13_circlesOf_2
        rw [nI_1, Int32.add_zero]
        exact ih (c + 1) k (by omega) (by omega)
      · refine u_X13_circlesOf_2 ?_; unfold qm_X13_circlesOf_2
        rw [nI_1, nI_1]
        exact ih (c + 1) (k + 1) (by omega) (by omega)
  refine e_X13_circlesOf ?_
  refine u_X13_circlesOf_0 ?_; unfold qm_X13_circlesOf_0
  exact key A.length 0 0 (by omega) (Nat.le_refl _)
theorem u_X13_writheOf_1 {x1 : Int32} {x2 : Int32} {r0 : Nat} {t0 : Int32} {t1 : Int32} {z : ow_MS} {Q : (Int32 × ow_MS) → Prop} (H : Tt (fun K k => qm_X13_writheOf_1 K (q_X13_writheOf K k) x1 x2 r0 t0 t1 z) Q) : Tt (fun K k => q_X13_writheOf K k 1 x1 x2 r0 t0 t1 z) Q := w_un (fun _ _ => rfl) H
theorem u_X13_writheOf_2 {x1 : Int32} {x2 : Int32} {r0 : Nat} {t0 : Int32} {t1 : Int32} {z : ow_MS} {Q : (Int32 × ow_MS) → Prop} (H : Tt (fun K k => qm_X13_writheOf_2 K (q_X13_writheOf K k) x1 x2 r0 t0 t1 z) Q) : Tt (fun K k => q_X13_writheOf K k 2 x1 x2 r0 t0 t1 z) Q := w_un (fun _ _ => rfl) H
theorem e_X13_writheOf {r0 : Nat} {z : ow_MS} {Q : (Int32 × ow_MS) → Prop} (H : Tt (fun K k => q_X13_writheOf K k 0 0 0 r0 0 0 z) Q) : Te (fun K => qe_X13_writheOf K r0 z) Q := w_te H
theorem u_X13_writheOf_0 {x1 : Int32} {x2 : Int32} {r0 : Nat} {t0 : Int32} {t1 : Int32} {z : ow_MS} {Q : (Int32 × ow_MS) → Prop} (H : Tt (fun K k => qm_X13_writheOf_0 K (q_X13_writheOf K k) x1 x2 r0 t0 t1 z) Q) : Tt (fun K k => q_X13_writheOf K k 0 x1 x2 r0 t0 t1 z) Q := w_un (fun _ _ => rfl) H
theorem tp_writhe {n : Nat} {A : rn_L} {sg : Nat → Bool} (hn : mw_net n) (hA : oNet z n A sg) : Te (fun K => qe_X13_writheOf K n z) (fun r => r.2 = z) := by
  have hl := hA.len
  have key : ∀ (d v : Nat) (x : Int32), v + d = A.flatten.length → Tt (fun K i => q_X13_writheOf K i 1 x (nI v) n 0 0 z) (fun r => r.2 = z) := by
    intro d
    induction d with
    | zero =>
      intro v x hv
      refine u_X13_writheOf_1 ?_; unfold qm_X13_writheOf_1
      exact w_rdF hA.1.V (w_leT (by omega) (by omega) (w_some rfl))
    | succ d ih =>
      intro v x hv
      have hvl : v < A.flatten.length := by omega
      obtain ⟨c1, c2, c3⟩ := hA.cx hvl
      refine u_X13_writheOf_1 ?_; unfold qm_X13_writheOf_1
      refine w_rdF hA.1.V (w_leF (by omega) hvl (w_rdI (pl5 hn) rfl (by omega) (lk_cu hA.1 hvl).2 (w_if (fun _ => w_rdI (pl4 hn) rfl (by omega) (lk_cu hA.1 hvl).1 (w_rdI (pl6 hn) rfl (by omega) rfl ?_)) (fun _ => ?_))))
      · refine u_X13_writheOf_2 ?_; unfold qm_X13_writheOf_2
        rw [nI_1]
        exact ih (v + 1) _ (by omega)
      · refine u_X13_writheOf_2 ?_; unfold qm_X13_writheOf_2
        rw [nI_1]
        exact ih (v + 1) _ (by omega)
  refine e_X13_writheOf ?_
  refine u_X13_writheOf_0 ?_; unfold qm_X13_writheOf_0
  exact key A.flatten.length 0 0 (by omega)
theorem e_X13_figure {x1 : Int32} {x2 : Int32} {z : ow_MS} {Q : (Int32 × ow_MS) → Prop} (H : Tt (fun K k => q_X13_figure K k 0 x1 x2 0 z) Q) : Te (fun K => qe_X13_figure K x1 x2 z) Q := w_te H
theorem u_X13_figure_0 {x1 : Int32} {x2 : Int32} {x3 : Int32} {z : ow_MS} {Q : (Int32 × ow_MS) → Prop} (H : Tt (fun K k => qm_X13_figure_0 K (q_X13_figure K k) x1 x2 x3 z) Q) : Tt (fun K k => q_X13_figure K k 0 x1 x2 x3 z) Q := w_un (fun _ _ => rfl) H
theorem u_X13_figure_1 {x1 : Int32} {x2 : Int32} {x3 : Int32} {z : ow_MS} {Q : (Int32 × ow_MS) → Prop} (H : Tt (fun K k => qm_X13_figure_1 K (q_X13_figure K k) x1 x2 x3 z) Q) : Tt (fun K k => q_X13_figure K k 1 x1 x2 x3 z) Q := w_un (fun _ _ => rfl) H
theorem u_X13_figure_2 {x1 : Int32} {x2 : Int32} {x3 : Int32} {z : ow_MS} {Q : (Int32 × ow_MS) → Prop} (H : Tt (fun K k => qm_X13_figure_2 K (q_X13_figure K k) x1 x2 x3 z) Q) : Tt (fun K k => q_X13_figure K k 2 x1 x2 x3 z) Q := w_un (fun _ _ => rfl) H
theorem tp_figure {d what : Int32} (h : gI X z) : Te (fun K => qe_X13_figure K d what z) (fun r => gI X r.2) := by
  refine e_X13_figure ?_
  refine u_X13_figure_0 ?_; unfold qm_X13_figure_0
  refine w_wrF (w_has (gI_1 h).2.1 (w_ifT rfl (w_fail (gI_1 h))) (fun e A sg he hx hv hne => w_ifF (by decide) ?_))
  subst hx
  have h1 := gI_1 (c := 0) h
  have c1 : Tt (fun K k => q_X13_figure K k 1 (nI e) what 0 (usF z 1 0)) (fun r => gI X r.2) := by
    refine u_X13_figure_1 ?_; unfold qm_X13_figure_1
    exact w_fail h1
  refine w_if (fun _ => c1) (fun _ => w_if (fun _ => w_cs0 (to_open pn1 he hv) (fun z2 ⟨o1, f1⟩ => ?_)) (fun _ => c1))
  have h2 : gI X z2 := gI_net pn1 f1 (fun g hg => by omega) h1
  have hl := o1.len
  have hc := o1.2.2.2
  have hd := wkF_ok o1.wk
  have c2 : ∀ (k v : Nat), v + k = A.flatten.length → Tt (fun K i => q_X13_figure K i 2 (nI e) what (nI v) z2) (fun r => gI X r.2) := by
    intro k
    induction k with
    | zero =>
      intro v hv9
      refine u_X13_figure_2 ?_; unfold qm_X13_figure_2
      exact w_rdF o1.1.V (w_leT (by omega) (by omega) (w_some h2))
    | succ k ih =>
      intro v hv9
      have hvl : v < A.flatten.length := by omega
      have hnl := rn_nx_lt (A := A) hvl
      refine u_X13_figure_2 ?_; unfold qm_X13_figure_2
      refine w_rdF o1.1.V (w_leF (by omega) hvl (w_rdI (pl5 pn1) rfl (by omega) rfl (w_rdI (pl9 pn1) rfl (by omega) (lk_n o1.1 hvl) (w_rdI (pl5 pn1) rfl (by omega) rfl (w_if (fun _ => w_some h2) (fun _ => ?_))))))
      rw [nI_1]
      exact ih (v + 1) (by omega)
  refine w_if (fun _ => w_rdF rfl (w_nzI (by decide) (w_some h2))) (fun _ => w_if (fun _ => w_rdF rfl (w_some h2)) (fun _ => w_if (fun _ => w_cs1 (tp_circles pn1 (by omega) (by omega) o1.1) (fun a z3 e => ?_)) (fun _ => w_if (fun _ => w_cs0 (tn_split pn1 (by omega) (by omega) hd o1.1) (fun z3 ⟨f3, _⟩ => w_rdF rfl (w_some ?_))) (fun _ => w_if (fun _ => w_cs1 (tp_writhe pn1 o1) (fun a z3 e => ?_)) (fun _ => c2 _ 0 (Nat.zero_add _))))))
  · have e : z3 = z2 := e.1
    subst e
    exact w_some h2
  · exact gI_net pn1 f3 (fun g hg => by rcases hg with hg | hg <;> omega) h2
  · have e : z3 = z2 := e
    subst e
    exact w_some h2
theorem e_X13_visit {x1 : Int32} {x2 : Int32} {x3 : Int32} {z : ow_MS} {Q : (Int32 × ow_MS) → Prop} (H : Tt (fun K k => q_X13_visit K k 0 x1 x2 x3 z) Q) : Te (fun K => qe_X13_visit K x1 x2 x3 z) Q := w_te H
theorem u_X13_visit_0 {x1 : Int32} {x2 : Int32} {x3 : Int32} {z : ow_MS} {Q : (Int32 × ow_MS) → Prop} (H : Tt (fun K k => qm_X13_visit_0 K (q_X13_visit K k) x1 x2 x3 z) Q) : Tt (fun K k => q_X13_visit K k 0 x1 x2 x3 z) Q := w_un (fun _ _ => rfl) H
theorem u_X13_visit_1 {x1 : Int32} {x2 : Int32} {x3 : Int32} {z : ow_MS} {Q : (Int32 × ow_MS) → Prop} (H : Tt (fun K k => qm_X13_visit_1 K (q_X13_visit K k) x1 x2 x3 z) Q) : Tt (fun K k => q_X13_visit K k 1 x1 x2 x3 z) Q := w_un (fun _ _ => rfl) H
theorem tp_visit {d i what : Int32} (h : gI X z) : Te (fun K => qe_X13_visit K d i what z) (fun r => gI X r.2) := by
  refine e_X13_visit ?_
  refine u_X13_visit_0 ?_; unfold qm_X13_visit_0
  refine w_wrF (w_has (gI_1 h).2.1 (w_ifT rfl (w_fail (gI_1 h))) (fun e A sg he hx hv hne => w_ifF (by decide) ?_))
  subst hx
  have h1 := gI_1 (c := 0) h
  refine w_cs0 (to_open pn1 he hv) (fun z2 ⟨o1, f1⟩ => ?_)
  have h2 : gI X z2 := gI_net pn1 f1 (fun g hg => by omega) h1
  have hl := o1.len
  have c1 : Tt (fun K k => q_X13_visit K k 1 (nI e) i what z2) (fun r => gI X r.2) := by
    refine u_X13_visit_1 ?_; unfold qm_X13_visit_1
    exact w_fail h2
  refine w_if (fun _ => c1) (fun h0 => w_rdF o1.1.V (w_if (fun h9 => ?_) (fun _ => c1)))
  obtain ⟨v, hv31, rfl⟩ := nI_of h0
  have hvl : v < A.flatten.length := (nI_ltI hv31 (by omega)).mp h9
  obtain ⟨x1, x2, x3⟩ := o1.cx hvl
  refine w_if (fun _ => w_fail h2) (fun hw => w_if (fun _ => w_rdI (pl8 pn1) rfl (by omega) rfl (w_some h2)) (fun w0 => w_if (fun _ => w_rdI (pl4 pn1) rfl (by omega) rfl (w_some h2)) (fun w1 => w_if (fun _ => w_rdI (pl5 pn1) rfl (by omega) rfl (w_some h2)) (fun w2 => w_if (fun _ => w_rdI (pl4 pn1) rfl (by omega) (lk_cu o1.1 hvl).1 (w_rdI (pl6 pn1) rfl (by omega) rfl (w_some h2))) (fun w3 => ?_)))))
  exfalso
  have key : ∀ k : Nat, k < 4 → what.toInt = (k : Int) → what = nI k := by
    intro k hk e9
    refine Int32.toInt_inj.mp ?_
    rw [e9, nI_toInt (by omega)]
  have hge : 0 ≤ what.toInt := by omega
  have hle : what.toInt ≤ 3 := by omega
  obtain ⟨k, hk⟩ := Int.eq_ofNat_of_zero_le hge
  have hk4 : k < 4 := by omega
  have hwk := key k hk4 hk
  have : k = 0 ∨ k = 1 ∨ k = 2 ∨ k = 3 := by omega
  rcases this with e9 | e9 | e9 | e9 <;> subst e9
  · exact w0 hwk
  · exact w1 hwk
  · exact w2 hwk
  · exact w3 hwk
theorem e_X13_linking {x1 : Int32} {x2 : Int32} {x3 : Int32} {z : ow_MS} {Q : (Int32 × ow_MS) → Prop} (H : Tt (fun K k => q_X13_linking K k 0 x1 x2 x3 0 0 z) Q) : Te (fun K => qe_X13_linking K x1 x2 x3 z) Q := w_te H
theorem u_X13_linking_0 {x1 : Int32} {x2 : Int32} {x3 : Int32} {x4 : Int32} {x5 : Int32} {z : ow_MS} {Q : (Int32 × ow_MS) → Prop} (H : Tt (fun K k => qm_X13_linking_0 K (q_X13_linking K k) x1 x2 x3 x4 x5 z) Q) : Tt (fun K k => q_X13_linking K k 0 x1 x2 x3 x4 x5 z) Q := w_un (fun _ _ => rfl) H
theorem u_X13_linking_1 {x1 : Int32} {x2 : Int32} {x3 : Int32} {x4 : Int32} {x5 : Int32} {z : ow_MS} {Q : (Int32 × ow_MS) → Prop} (H : Tt (fun K k => qm_X13_linking_1 K (q_X13_linking K k) x1 x2 x3 x4 x5 z) Q) : Tt (fun K k => q_X13_linking K k 1 x1 x2 x3 x4 x5 z) Q := w_un (fun _ _ => rfl) H
theorem u_X13_linking_2 {x1 : Int32} {x2 : Int32} {x3 : Int32} {x4 : Int32} {x5 : Int32} {z : ow_MS} {Q : (Int32 × ow_MS) → Prop} (H : Tt (fun K k => qm_X13_linking_2 K (q_X13_linking K k) x1 x2 x3 x4 x5 z) Q) : Tt (fun K k => q_X13_linking K k 2 x1 x2 x3 x4 x5 z) Q := w_un (fun _ _ => rfl) H
theorem u_X13_linking_3 {x1 : Int32} {x2 : Int32} {x3 : Int32} {x4 : Int32} {x5 : Int32} {z : ow_MS} {Q : (Int32 × ow_MS) → Prop} (H : Tt (fun K k => qm_X13_linking_3 K (q_X13_linking K k) x1 x2 x3 x4 x5 z) Q) : Tt (fun K k => q_X13_linking K k 3 x1 x2 x3 x4 x5 z) Q := w_un (fun _ _ => rfl) H
theorem tp_linking {d a b : Int32} (h : gI X z) : Te (fun K => qe_X13_linking K d a b z) (fun r => gI X r.2) := by
  refine e_X13_linking ?_
  refine u_X13_linking_0 ?_; unfold qm_X13_linking_0
  refine w_wrF (w_has (gI_1 h).2.1 (w_ifT rfl (w_fail (gI_1 h))) (fun e A sg he hx hv hne => w_ifF (by decide) ?_))
  subst hx
  have h1 := gI_1 (c := 0) h
  refine w_cs0 (to_open pn1 he hv) (fun z2 ⟨o1, f1⟩ => ?_)
  have h2 : gI X z2 := gI_net pn1 f1 (fun g hg => by omega) h1
  have hl := o1.len
  have hd := wkF_ok o1.wk
  have c1 : Tt (fun K k => q_X13_linking K k 1 (nI e) a b 0 0 z2) (fun r => gI X r.2) := by
    refine u_X13_linking_1 ?_; unfold qm_X13_linking_1
    exact w_fail h2
  have c2 : ∀ (k v : Nat) (x : Int32), v + k = A.flatten.length → Tt (fun K i => q_X13_linking K i 2 (nI e) a b x (nI v) z2) (fun r => gI X r.2) := by
    intro k
    induction k with
    | zero =>
      intro v x hv9
      refine u_X13_linking_2 ?_; unfold qm_X13_linking_2
      exact w_rdF o1.1.V (w_leT (by omega) (by omega) (w_nzI (by decide) (w_some h2)))
    | succ k ih =>
      intro v x hv9
      have hvl : v < A.flatten.length := by omega
      have hml := mtf_lt hd hvl
      obtain ⟨x1, x2, x3⟩ := o1.cx hvl
      have c3 : ∀ y : Int32, Tt (fun K i => q_X13_linking K i 3 (nI e) a b y (nI v) z2) (fun r => gI X r.2) := by
        intro y
        refine u_X13_linking_3 ?_; unfold qm_X13_linking_3
        rw [nI_1]
        exact ih (v + 1) _ (by omega)
      refine u_X13_linking_2 ?_; unfold qm_X13_linking_2
      exact w_rdF o1.1.V (w_leF (by omega) hvl (w_rdI (pl8 pn1) rfl (by omega) rfl (w_if (fun _ => w_rdI (pl7 pn1) rfl (by omega) (lk_m hd o1.1 hvl) (w_rdI (pl8 pn1) rfl (by omega) rfl (w_if (fun _ => w_rdI (pl4 pn1) rfl (by omega) (lk_cu o1.1 hvl).1 (w_rdI (pl6 pn1) rfl (by omega) rfl (c3 _))) (fun _ => c3 _)))) (fun _ => c3 _))))
  exact w_if (fun _ => c1) (fun _ => w_rdF rfl (w_if (fun _ => c1) (fun _ => w_if (fun _ => c1) (fun _ => w_rdF rfl (w_if (fun _ => w_if (fun _ => w_fail h2) (fun _ => c2 _ 0 0 (Nat.zero_add _))) (fun _ => c1))))))
theorem e_X13_alike {x1 : Int32} {x2 : Int32} {z : ow_MS} {Q : (Int32 × ow_MS) → Prop} (H : Tt (fun K _ => qm_X13_alike_0 K x1 x2 z) Q) : Te (fun K => qe_X13_alike K x1 x2 z) Q := w_te0 H
theorem tp_alike {d e : Int32} (h : gI X z) : Te (fun K => qe_X13_alike K d e z) (fun r => gI X r.2 ∧ (r.1 = 0 ∨ r.1 = 1) ∧ r.2.2 = z.2) := by
  have h1 := gI_1 (c := 0) h
  refine e_X13_alike ?_; unfold qm_X13_alike_0
  refine w_wrF (w_has h1.2.1 (w_ifT rfl (w_okZ (Or.inl rfl) (w_some ⟨h1, Or.inl rfl, rfl⟩))) (fun d A sg hd hx hv hne => w_ifF (by decide) (w_has h1.2.1 (w_ifT rfl (w_okZ (Or.inl rfl) (w_some ⟨h1, Or.inl rfl, rfl⟩))) (fun e B sg2 he hy hw hne2 => w_ifF (by decide) ?_))))
  subst hx
  subst hy
  have l1 := hv.1.1
  have l2 := hw.1.1
  rw [show (32 : Int32) * nI d = nI (32 * d) from pk_mul 32 d, show (32 : Int32) * nI e = nI (32 * e) from pk_mul 32 e]
  refine w_cs1 (tr_same ml12 ml12 (by omega) (by omega) (by omega) (by omega) hv.1 hw.1) (fun a z2 e => ?_)
  cases e
  exact w_if (fun _ => w_okZ (Or.inl rfl) (w_some ⟨h1, Or.inl rfl, rfl⟩)) (fun _ => w_okZ (Or.inr rfl) (w_some ⟨h1, Or.inr rfl, rfl⟩))
end PUBA
