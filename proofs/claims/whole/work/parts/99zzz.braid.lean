/-! braids of the reference: places, braid, product, inverse -/
theorem i32_a (y : Int32) : 0 - (y + 1) = -1 - y := by
  rw [Int32.zero_sub, Int32.neg_add, Int32.sub_eq_add_neg, Int32.sub_eq_add_neg, Int32.add_comm]
theorem i32_b (y : Int32) : 0 - (-1 - y) = y + 1 := by
  have h : -1 - y = 0 - (y + 1) := (i32_a y).symm
  rw [h, Int32.zero_sub, Int32.zero_sub, Int32.neg_neg]
/-- a letter on n strands -/
def ltr (n : Nat) (x : Int32) : Prop := ∃ a, a + 1 < n ∧ (x = nI (a + 1) ∨ x = -1 - nI a)
theorem ltr_neg {n : Nat} {x : Int32} (h : ltr n x) : ltr n (0 - x) := by
  obtain ⟨a, h1, h2⟩ := h
  refine ⟨a, h1, ?_⟩
  have e1 : nI (a + 1) = nI a + 1 := nI_succ a
  rcases h2 with h2 | h2
  · exact Or.inr (by rw [h2, e1, i32_a])
  · exact Or.inl (by rw [h2, e1, i32_b])
/-- a braid that is there -/
def hBr (z : ow_MS) (b n l : Nat) : Prop := 2 ≤ n ∧ n ≤ 5 ∧ l ≤ 16 ∧ z.2.1 96 b = nI n ∧ z.2.1 95 b = nI l ∧ ∀ i, i < l → ltr n (z.2.1 94 (16 * b + i))
theorem hBr_g {z : ow_MS} {b n l : Nat} (h : hBr z b n l) : gBr z b := ⟨n, l, h.2.1, by have := h.1; omega, h.2.2.2.1, fun _ => ⟨h.2.2.1, h.2.2.2.2.1, h.2.2.2.2.2⟩⟩
theorem gBr_h {z : ow_MS} {b : Nat} (h : gBr z b) : z.2.1 96 b = 0 ∨ ∃ n l, hBr z b n l := by
  obtain ⟨n, l, h1, h2, h3, h4⟩ := h
  rcases Nat.eq_zero_or_pos n with e | e
  · exact Or.inl (by rw [h3, e]; rfl)
  · obtain ⟨g1, g2, g3⟩ := h4 e
    exact Or.inr ⟨n, l, by omega, h1, g1, h3, g2, g3⟩
theorem hBr_eq {z z1 : ow_MS} {b n l : Nat} (h : hBr z b n l) (e6 : z1.2.1 96 b = z.2.1 96 b) (e5 : z1.2.1 95 b = z.2.1 95 b) (e4 : ∀ i, i < 16 → z1.2.1 94 (16 * b + i) = z.2.1 94 (16 * b + i)) : hBr z1 b n l := by
  obtain ⟨h1, h2, h3, h4, h5, h6⟩ := h
  exact ⟨h1, h2, h3, by rw [e6]; exact h4, by rw [e5]; exact h5, fun i hi => by rw [e4 i (by omega)]; exact h6 i hi⟩
section BR
variable {X : (Nat → Nat → Int32) → Prop} {z : ow_MS}
theorem gI_br {P : Nat → Prop} {z1 : ow_MS} (hf : fr P z z1) (hP : ∀ g, P g → 94 ≤ g ∧ g ≤ 96 ∨ ¬ per g) (hr : gBrs z1) (h : gI X z) : gI X z1 := by
  obtain ⟨h1, h2, h3, h4, h5, h6, h7⟩ := h
  have no : ∀ g, per g → ¬ (94 ≤ g ∧ g ≤ 96) → ¬ P g := fun g hg hne h9 => (hP g h9).elim hne (fun h8 => h8 hg)
  exact ⟨gTape_fr hf (no 11 (by decide) (by decide)) h1, gRows_fr hf (no 12 (by decide) (by decide)) h2, gList_fr hf (no 20 (by decide) (by decide)) (no 21 (by decide) (by decide)) (no 22 (by decide) (by decide)) h3, gSum_fr hf (no 35 (by decide) (by decide)) (no 39 (by decide) (by decide)) (no 36 (by decide) (by decide)) h4, gCash_fr hf (no 43 (by decide) (by decide)) (no 45 (by decide) (by decide)) (no 50 (by decide) (by decide)) (no 65 (by decide) (by decide)) (no 67 (by decide) (by decide)) h5, hr, gX_fr hf (fun g hg h9 => (hP g hg).elim (fun e => by omega) (fun h8 => h8 (by unfold per; omega))) h7⟩
theorem e_X13_hasBraid {x1 : Int32} {z : ow_MS} {Q : (Int32 × ow_MS) → Prop} (H : Tt (fun K _ => qm_X13_hasBraid_0 K x1 z) Q) : Te (fun K => qe_X13_hasBraid K x1 z) Q := w_te0 H
theorem w_hasB {O : Type} {x : Int32} {Q : O → Prop} {B : Int32 → ow_MS → Nat → Nat → Option O} (h : gBrs z) (H0 : Tt (B 0 z) Q) (H1 : ∀ b n l, b < 20 → x = nI b → hBr z b n l → Tt (B 1 z) Q) : Tt (fun K k => cs1 (qe_X13_hasBraid K x z) fun v z1 => B v z1 K k) Q := by
  have key : Te (fun K => qe_X13_hasBraid K x z) (fun r => r = (0, z) ∨ r = (1, z) ∧ ∃ b n l, b < 20 ∧ x = nI b ∧ hBr z b n l) := by
    refine e_X13_hasBraid ?_; unfold qm_X13_hasBraid_0
    refine w_if (fun _ => w_okZ (Or.inl rfl) (w_some (Or.inl rfl))) (fun h0 => w_if (fun _ => w_okZ (Or.inl rfl) (w_some (Or.inl rfl))) (fun h1 => ?_))
    obtain ⟨b, hb, rfl⟩ : ∃ b, b < 20 ∧ x = nI b := by
      rcases pk_ix x (n := 20) (by omega) with h9 | h9 | h9
      · exact absurd h9 h0
      · exact absurd h9 h1
      · exact h9
    refine w_rdI ml96 rfl (by omega) rfl (w_if (fun _ => w_okZ (Or.inl rfl) (w_some (Or.inl rfl))) (fun h9 => w_okZ (Or.inr rfl) (w_some (Or.inr ⟨rfl, ?_⟩))))
    rcases gBr_h (h b hb) with e | ⟨n, l, hh⟩
    · rw [e] at h9
      exact absurd (by decide) h9
    · exact ⟨b, n, l, hb, rfl, hh⟩
  refine w_cs1 key (fun a z1 e => ?_)
  rcases e with e | ⟨e, b, n, l, hb, hx, hh⟩
  · cases e
    exact H0
  · cases e
    exact H1 b n l hb hx hh
theorem u_X13_freeBraid_1 {x1 : Int32} {z : ow_MS} {Q : (Int32 × ow_MS) → Prop} (H : Tt (fun K k => qm_X13_freeBraid_1 K (q_X13_freeBraid K k) x1 z) Q) : Tt (fun K k => q_X13_freeBraid K k 1 x1 z) Q := w_un (fun _ _ => rfl) H
theorem u_X13_freeBraid_2 {x1 : Int32} {z : ow_MS} {Q : (Int32 × ow_MS) → Prop} (H : Tt (fun K k => qm_X13_freeBraid_2 K (q_X13_freeBraid K k) x1 z) Q) : Tt (fun K k => q_X13_freeBraid K k 2 x1 z) Q := w_un (fun _ _ => rfl) H
theorem e_X13_freeBraid {z : ow_MS} {Q : (Int32 × ow_MS) → Prop} (H : Tt (fun K k => q_X13_freeBraid K k 0 0 z) Q) : Te (fun K => qe_X13_freeBraid K z) Q := w_te H
theorem u_X13_freeBraid_0 {x1 : Int32} {z : ow_MS} {Q : (Int32 × ow_MS) → Prop} (H : Tt (fun K k => qm_X13_freeBraid_0 K (q_X13_freeBraid K k) x1 z) Q) : Tt (fun K k => q_X13_freeBraid K k 0 x1 z) Q := w_un (fun _ _ => rfl) H
theorem w_freeB {O : Type} {Q : O → Prop} {B : Int32 → ow_MS → Nat → Nat → Option O} (h : gBrs z) (H0 : Tt (B (-1) z) Q) (H1 : ∀ c, c < 20 → z.2.1 96 c = 0 → Tt (B (nI c) z) Q) : Tt (fun K k => cs1 (qe_X13_freeBraid K z) fun v z1 => B v z1 K k) Q := by
  have key : Te (fun K => qe_X13_freeBraid K z) (fun r => r = (-1, z) ∨ ∃ c, c < 20 ∧ r = (nI c, z) ∧ z.2.1 96 c = 0) := by
    have lp : ∀ (k c : Nat), c + k = 20 → Tt (fun K i => q_X13_freeBraid K i 1 (nI c) z) (fun r => r = (-1, z) ∨ ∃ c, c < 20 ∧ r = (nI c, z) ∧ z.2.1 96 c = 0) := by
      intro k
      induction k with
      | zero =>
        intro c hc
        refine u_X13_freeBraid_1 ?_; unfold qm_X13_freeBraid_1
        refine w_leT (a := 20) (by omega) (by omega) ?_
        refine u_X13_freeBraid_2 ?_; unfold qm_X13_freeBraid_2
        exact w_leT (a := 20) (by omega) (by omega) (w_some (Or.inl rfl))
      | succ k ih =>
        intro c hc
        refine u_X13_freeBraid_1 ?_; unfold qm_X13_freeBraid_1
        rw [nI_1]
        refine w_leF (a := 20) (by omega) (by omega) (w_rdI ml96 rfl (by omega) rfl (w_if (fun h9 => ?_) (fun _ => ih (c + 1) (by omega))))
        refine u_X13_freeBraid_2 ?_; unfold qm_X13_freeBraid_2
        refine w_leF (a := 20) (by omega) (by omega) (w_some (Or.inr ⟨c, by omega, rfl, ?_⟩))
        rcases gBr_h (h c (by omega)) with e | ⟨n, l, hh⟩
        · exact e
        · rw [hh.2.2.2.1] at h9
          exact absurd h9 (nI_nle (by have := hh.1; omega) (by have := hh.2.1; omega))
    refine e_X13_freeBraid ?_
    refine u_X13_freeBraid_0 ?_; unfold qm_X13_freeBraid_0
    exact lp 20 0 (by omega)
  refine w_cs1 key (fun a z1 e => ?_)
  rcases e with e | ⟨c, hc, e, h9⟩
  · cases e
    exact H0
  · cases e
    exact H1 c hc h9
theorem e_X13_dropBraid {x1 : Int32} {z : ow_MS} {Q : (Int32 × ow_MS) → Prop} (H : Tt (fun K _ => qm_X13_dropBraid_0 K x1 z) Q) : Te (fun K => qe_X13_dropBraid K x1 z) Q := w_te0 H
theorem tp_dropBraid {b : Int32} (h : gI X z) : Te (fun K => qe_X13_dropBraid K b z) (fun r => gI X r.2) := by
  have h1 := gI_1 (c := 0) h
  refine e_X13_dropBraid ?_; unfold qm_X13_dropBraid_0
  refine w_wrF (w_hasB h1.2.2.2.2.2.1 (w_ifT rfl (w_okZ (Or.inl rfl) (w_some h1))) (fun c n l hc hx hh => w_ifF (by decide) ?_))
  subst hx
  refine w_wrI ml96 rfl (by omega) (w_okZ (Or.inr rfl) (w_some ?_))
  refine gI_br (P := fun g => g = 96) (fr_I rfl) (fun g hg => Or.inl (by omega)) (fun d hd => ?_) h1
  by_cases hdc : d = c
  · rw [hdc]
    exact ⟨0, 0, by omega, by omega, po_usI_at, fun h9 => by omega⟩
  · rcases gBr_h (h1.2.2.2.2.2.1 d hd) with e | ⟨n2, l2, hh2⟩
    · exact ⟨0, 0, by omega, by omega, rd_ne hdc e, fun h9 => by omega⟩
    · exact hBr_g (hBr_eq hh2 (po_usI_ne hdc) (congrFun (po_usI_ot (by decide)) _) (fun i _ => congrFun (po_usI_ot (by decide)) _))
/-- a new braid at a free place -/
theorem gBrs_new {z1 : ow_MS} {c n l : Nat} (h : gBrs z) (hn : hBr z1 c n l) (e6 : ∀ d, d ≠ c → z1.2.1 96 d = z.2.1 96 d) (e5 : ∀ d, d ≠ c → z1.2.1 95 d = z.2.1 95 d) (e4 : ∀ d, d ≠ c → ∀ i, i < 16 → z1.2.1 94 (16 * d + i) = z.2.1 94 (16 * d + i)) : gBrs z1 := fun d hd => by
  by_cases hdc : d = c
  · rw [hdc]
    exact hBr_g hn
  · rcases gBr_h (h d hd) with e | ⟨n2, l2, hh2⟩
    · exact ⟨0, 0, by omega, by omega, (e6 d hdc).trans e, fun h9 => by omega⟩
    · exact hBr_g (hBr_eq hh2 (e6 d hdc) (e5 d hdc) (e4 d hdc))
/-- words are written at a place that is free still -/
theorem gBrs_wr {z1 : ow_MS} {c : Nat} (h : gBrs z) (hc : z.2.1 96 c = 0) (e6 : z1.2.1 96 = z.2.1 96) (e5 : z1.2.1 95 = z.2.1 95) (e4 : ∀ d, d ≠ c → ∀ i, i < 16 → z1.2.1 94 (16 * d + i) = z.2.1 94 (16 * d + i)) : gBrs z1 := fun d hd => by
  by_cases hdc : d = c
  · rw [hdc]
    exact ⟨0, 0, by omega, by omega, by rw [e6]; exact hc, fun h9 => by omega⟩
  · rcases gBr_h (h d hd) with e | ⟨n2, l2, hh2⟩
    · exact ⟨0, 0, by omega, by omega, by rw [e6]; exact e, fun h9 => by omega⟩
    · exact hBr_g (hBr_eq hh2 (by rw [e6]) (by rw [e5]) (e4 d hdc))
theorem u_X13_braid_1 {x1 : Int32} {x2 : Int32} {x3 : Int32} {x4 : Int32} {x5 : Int32} {x6 : Int32} {x7 : Int32} {t0 : Int32} {t1 : Int32} {z : ow_MS} {Q : (Int32 × ow_MS) → Prop} (H : Tt (fun K k => qm_X13_braid_1 K (q_X13_braid K k) x1 x2 x3 x4 x5 x6 x7 t0 t1 z) Q) : Tt (fun K k => q_X13_braid K k 1 x1 x2 x3 x4 x5 x6 x7 t0 t1 z) Q := w_un (fun _ _ => rfl) H
theorem e_X13_braid {x1 : Int32} {z : ow_MS} {Q : (Int32 × ow_MS) → Prop} (H : Tt (fun K k => q_X13_braid K k 0 x1 0 0 0 0 0 0 0 0 z) Q) : Te (fun K => qe_X13_braid K x1 z) Q := w_te H
theorem u_X13_braid_0 {x1 : Int32} {x2 : Int32} {x3 : Int32} {x4 : Int32} {x5 : Int32} {x6 : Int32} {x7 : Int32} {t0 : Int32} {t1 : Int32} {z : ow_MS} {Q : (Int32 × ow_MS) → Prop} (H : Tt (fun K k => qm_X13_braid_0 K (q_X13_braid K k) x1 x2 x3 x4 x5 x6 x7 t0 t1 z) Q) : Tt (fun K k => q_X13_braid K k 0 x1 x2 x3 x4 x5 x6 x7 t0 t1 z) Q := w_un (fun _ _ => rfl) H
theorem u_X13_braid_10 {x1 : Int32} {x2 : Int32} {x3 : Int32} {x4 : Int32} {x5 : Int32} {x6 : Int32} {x7 : Int32} {t0 : Int32} {t1 : Int32} {z : ow_MS} {Q : (Int32 × ow_MS) → Prop} (H : Tt (fun K k => qm_X13_braid_10 K (q_X13_braid K k) x1 x2 x3 x4 x5 x6 x7 t0 t1 z) Q) : Tt (fun K k => q_X13_braid K k 10 x1 x2 x3 x4 x5 x6 x7 t0 t1 z) Q := w_un (fun _ _ => rfl) H
theorem u_X13_braid_2 {x1 : Int32} {x2 : Int32} {x3 : Int32} {x4 : Int32} {x5 : Int32} {x6 : Int32} {x7 : Int32} {t0 : Int32} {t1 : Int32} {z : ow_MS} {Q : (Int32 × ow_MS) → Prop} (H : Tt (fun K k => qm_X13_braid_2 K (q_X13_braid K k) x1 x2 x3 x4 x5 x6 x7 t0 t1 z) Q) : Tt (fun K k => q_X13_braid K k 2 x1 x2 x3 x4 x5 x6 x7 t0 t1 z) Q := w_un (fun _ _ => rfl) H
theorem u_X13_braid_7 {x1 : Int32} {x2 : Int32} {x3 : Int32} {x4 : Int32} {x5 : Int32} {x6 : Int32} {x7 : Int32} {t0 : Int32} {t1 : Int32} {z : ow_MS} {Q : (Int32 × ow_MS) → Prop} (H : Tt (fun K k => qm_X13_braid_7 K (q_X13_braid K k) x1 x2 x3 x4 x5 x6 x7 t0 t1 z) Q) : Tt (fun K k => q_X13_braid K k 7 x1 x2 x3 x4 x5 x6 x7 t0 t1 z) Q := w_un (fun _ _ => rfl) H
theorem u_X13_braid_9 {x1 : Int32} {x2 : Int32} {x3 : Int32} {x4 : Int32} {x5 : Int32} {x6 : Int32} {x7 : Int32} {t0 : Int32} {t1 : Int32} {z : ow_MS} {Q : (Int32 × ow_MS) → Prop} (H : Tt (fun K k => qm_X13_braid_9 K (q_X13_braid K k) x1 x2 x3 x4 x5 x6 x7 t0 t1 z) Q) : Tt (fun K k => q_X13_braid K k 9 x1 x2 x3 x4 x5 x6 x7 t0 t1 z) Q := w_un (fun _ _ => rfl) H
theorem u_X13_braid_8 {x1 : Int32} {x2 : Int32} {x3 : Int32} {x4 : Int32} {x5 : Int32} {x6 : Int32} {x7 : Int32} {t0 : Int32} {t1 : Int32} {z : ow_MS} {Q : (Int32 × ow_MS) → Prop} (H : Tt (fun K k => qm_X13_braid_8 K (q_X13_braid K k) x1 x2 x3 x4 x5 x6 x7 t0 t1 z) Q) : Tt (fun K k => q_X13_braid K k 8 x1 x2 x3 x4 x5 x6 x7 t0 t1 z) Q := w_un (fun _ _ => rfl) H
theorem u_X13_braid_5 {x1 : Int32} {x2 : Int32} {x3 : Int32} {x4 : Int32} {x5 : Int32} {x6 : Int32} {x7 : Int32} {t0 : Int32} {t1 : Int32} {z : ow_MS} {Q : (Int32 × ow_MS) → Prop} (H : Tt (fun K k => qm_X13_braid_5 K (q_X13_braid K k) x1 x2 x3 x4 x5 x6 x7 t0 t1 z) Q) : Tt (fun K k => q_X13_braid K k 5 x1 x2 x3 x4 x5 x6 x7 t0 t1 z) Q := w_un (fun _ _ => rfl) H
theorem u_X13_braid_6 {x1 : Int32} {x2 : Int32} {x3 : Int32} {x4 : Int32} {x5 : Int32} {x6 : Int32} {x7 : Int32} {t0 : Int32} {t1 : Int32} {z : ow_MS} {Q : (Int32 × ow_MS) → Prop} (H : Tt (fun K k => qm_X13_braid_6 K (q_X13_braid K k) x1 x2 x3 x4 x5 x6 x7 t0 t1 z) Q) : Tt (fun K k => q_X13_braid K k 6 x1 x2 x3 x4 x5 x6 x7 t0 t1 z) Q := w_un (fun _ _ => rfl) H
theorem u_X13_braid_4 {x1 : Int32} {x2 : Int32} {x3 : Int32} {x4 : Int32} {x5 : Int32} {x6 : Int32} {x7 : Int32} {t0 : Int32} {t1 : Int32} {z : ow_MS} {Q : (Int32 × ow_MS) → Prop} (H : Tt (fun K k => qm_X13_braid_4 K (q_X13_braid K k) x1 x2 x3 x4 x5 x6 x7 t0 t1 z) Q) : Tt (fun K k => q_X13_braid K k 4 x1 x2 x3 x4 x5 x6 x7 t0 t1 z) Q := w_un (fun _ _ => rfl) H
theorem u_X13_braid_3 {x1 : Int32} {x2 : Int32} {x3 : Int32} {x4 : Int32} {x5 : Int32} {x6 : Int32} {x7 : Int32} {t0 : Int32} {t1 : Int32} {z : ow_MS} {Q : (Int32 × ow_MS) → Prop} (H : Tt (fun K k => qm_X13_braid_3 K (q_X13_braid K k) x1 x2 x3 x4 x5 x6 x7 t0 t1 z) Q) : Tt (fun K k => q_X13_braid K k 3 x1 x2 x3 x4 x5 x6 x7 t0 t1 z) Q := w_un (fun _ _ => rfl) H
theorem tp_braid {x : Int32} (h : gI X z) : Te (fun K => qe_X13_braid K x z) (fun r => gI X r.2) := by
  have h1 := gI_1 (c := 0) h
  obtain ⟨t, ht, h11⟩ := h1.1
  have c1 : Tt (fun K k => q_X13_braid K k 1 x 0 0 0 0 0 0 0 0 (usF z 1 0)) (fun r => gI X r.2) := by
    refine u_X13_braid_1 ?_; unfold qm_X13_braid_1
    exact w_fail h1
  refine e_X13_braid ?_
  refine u_X13_braid_0 ?_; unfold qm_X13_braid_0
  refine w_wrF (w_if (fun _ => c1) (fun h2 => w_if (fun h5 => w_freeB h1.2.2.2.2.2.1 (w_ifT rfl (w_fail h1)) (fun c hc hc0 => w_ifF (rn_neg1 (by omega)) ?_)) (fun _ => c1)))
  obtain ⟨n, hn, rfl⟩ : ∃ n, n ≤ 5 ∧ x = nI n := by
    have h0 : ¬ x < 0 := fun h9 => h2 (Int32.lt_trans h9 (by decide))
    exact nI_of2 (M := 5) (n := 5) (by decide) h0 h5
  have hn2 : 2 ≤ n := by
    rcases Nat.lt_or_ge n 2 with h9 | h9
    · exact absurd (nI_lt h9 (by omega)) h2
    · exact h9
  have en1 : nI n - 1 = nI (n - 1) := pk_sub (b := 1) (by omega)
  let W : Nat → ow_MS → Prop := fun i y => fr (fun g => g = 94) (usF z 1 0) y ∧ (∀ d, d ≠ c → ∀ j, j < 16 → y.2.1 94 (16 * d + j) = (usF z 1 0).2.1 94 (16 * d + j)) ∧ ∀ j, j < i → ltr n (y.2.1 94 (16 * c + j))
  have wI : ∀ {i : Nat} {y : ow_MS}, W i y → gI X y := fun hW => gI_br hW.1 (fun g hg => Or.inl (by omega)) (gBrs_wr h1.2.2.2.2.2.1 hc0 (hW.1 96 (by omega)).2.1 (hW.1 95 (by omega)).2.1 hW.2.1) h1
  have y11 : ∀ {i : Nat} {y : ow_MS}, W i y → y.1 11 = nI t := fun hW => by rw [(hW.1 11 (by omega)).1]; exact h11
  -- the end
  have l10 : ∀ (x3 x4 : Int32) (i : Nat) (y : ow_MS), W i y → (x3 = -1 → t ≤ i ∧ i ≤ 16) → Tt (fun K k => q_X13_braid K k 10 (nI n) (nI c) x3 x4 0 0 0 0 0 y) (fun r => gI X r.2) := by
    intro x3 x4 i y hW hx3
    have hI := gI_t (t := 0) (x := 0) rfl (by omega) (wI hW)
    refine u_X13_braid_10 ?_; unfold qm_X13_braid_10
    refine w_rdF (y11 hW) (w_wrF (w_if (fun e => ?_) (fun _ => w_some hI)))
    obtain ⟨t1, t2⟩ := hx3 e
    refine w_wrI ml95 rfl (by omega) (w_wrI ml96 rfl (by omega) (w_some ?_))
    have f3 : fr (fun g => g = 95 ∨ g = 96) (usF y 11 0) (usI (usI (usF y 11 0) 95 c (nI t)) 96 c (nI n)) := fr_I2 (fr_I (Or.inl rfl)) (Or.inr rfl)
    refine gI_br f3 (fun g hg => Or.inl (by omega)) (gBrs_new hI.2.2.2.2.2.1 (c := c) (n := n) (l := t) ⟨hn2, hn, by omega, po_usI_at, rd_ot (by decide) po_usI_at, fun j hj => ?_⟩ (fun d hd => po_usI_ne hd) (fun d hd => ?_) (fun d hd j hj => ?_)) hI
    · rw [po_usI_ot (by decide), po_usI_ot (by decide)]
      exact hW.2.2 j (by omega)
    · rw [po_usI_ot (by decide), po_usI_ne hd]
    · rw [po_usI_ot (by decide), po_usI_ot (by decide)]
  have bad : ∀ (i a : Nat) (y : ow_MS), W 0 y → a < 1000 → Tt (fun K k9 => q_X13_braid K k9 2 (nI n) (nI c) (nI a) (nI i) 0 0 0 0 0 y) (fun r => gI X r.2) := by
    intro i a y hW ha
    have e10 : Tt (fun K k9 => q_X13_braid K k9 10 (nI n) (nI c) (nI a) (nI i) 0 0 0 0 0 y) (fun r => gI X r.2) := l10 (nI a) (nI i) 0 y hW (fun e => absurd e (rn_neg1 (by omega)))
    refine u_X13_braid_2 ?_; unfold qm_X13_braid_2
    exact w_rdF (y11 hW) (w_if (fun _ => e10) (fun _ => w_ifF (rn_neg1 (by omega)) e10))
  have main : ∀ (k i : Nat) (y : ow_MS), i + k = 16 → W i y → Tt (fun K k9 => q_X13_braid K k9 2 (nI n) (nI c) (-1) (nI i) 0 0 0 0 0 y) (fun r => gI X r.2) := by
    intro k
    induction k using Nat.strongRecOn with
    | ind k ih =>
      intro i y hi hW
      refine u_X13_braid_2 ?_; unfold qm_X13_braid_2
      refine w_rdF (y11 hW) (w_le (by omega) (by omega) (fun hti => l10 (-1) (nI i) i y hW (fun _ => ⟨hti, by omega⟩)) (fun hti => w_ifT rfl (w_rdI ml10 rfl (by omega) rfl (w_rdI ml10 rfl (by omega) rfl ?_))))
      obtain ⟨v, hv⟩ : ∃ v, v = y.2.1 10 i := ⟨_, rfl⟩
      rw [← hv]
      have c7 : ∀ x5 x6 x7 : Int32, Tt (fun K k9 => q_X13_braid K k9 7 (nI n) (nI c) (-1) (nI i) x5 x6 x7 0 0 y) (fun r => gI X r.2) := by
        intro x5 x6 x7
        refine u_X13_braid_7 ?_; unfold qm_X13_braid_7
        refine u_X13_braid_9 ?_; unfold qm_X13_braid_9
        rw [nI_1]
        exact bad (i + 1) i y ⟨hW.1, hW.2.1, fun j hj => by omega⟩ (by omega)
      have c8 : ∀ (x5 x6 x7 t0 : Int32), i < 16 → ltr n t0 → Tt (fun K k9 => q_X13_braid K k9 8 (nI n) (nI c) (-1) (nI i) x5 x6 x7 t0 (nI (16 * c + i)) y) (fun r => gI X r.2) := by
        intro x5 x6 x7 t0 hi16 hl
        refine u_X13_braid_8 ?_; unfold qm_X13_braid_8
        refine w_wrI ml94 rfl (by omega) ?_
        refine u_X13_braid_9 ?_; unfold qm_X13_braid_9
        rw [nI_1]
        refine ih (k - 1) (by omega) (i + 1) _ (by omega) ⟨fr_I2 hW.1 rfl, fun d hd j hj => rd_ne (by omega) (hW.2.1 d hd j hj), fun j hj => ?_⟩
        by_cases hji : j = i
        · rw [hji, po_usI_at]
          exact hl
        · rw [po_usI_ne (by omega)]
          exact hW.2.2 j (by omega)
      have c5 : ∀ x5 x6 : Int32, Tt (fun K k9 => q_X13_braid K k9 5 (nI n) (nI c) (-1) (nI i) x5 x6 0 0 0 y) (fun r => gI X r.2) := by
        intro x5 x6
        refine u_X13_braid_5 ?_; unfold qm_X13_braid_5
        refine u_X13_braid_6 ?_; unfold qm_X13_braid_6
        exact w_if (fun _ => c7 _ _ _) (fun _ => w_ifT rfl (c7 _ _ _))
      have c4 : ∀ x5 x6 : Int32, ((∃ a, a < n - 1 ∧ x5 = nI a) ∨ x5 < 0 ∧ ∃ a, a < n - 1 ∧ x6 = nI a) → Tt (fun K k9 => q_X13_braid K k9 4 (nI n) (nI c) (-1) (nI i) x5 x6 0 0 0 y) (fun r => gI X r.2) := by
        intro x5 x6 hok
        refine u_X13_braid_4 ?_; unfold qm_X13_braid_4
        refine u_X13_braid_6 ?_; unfold qm_X13_braid_6
        rw [show (16 : Int32) * nI c = nI (16 * c) from pk_mul 16 c, nI_add]
        refine w_eqN (b := 16) (by omega) (by omega) (fun _ => c7 _ _ _) (fun h16 => w_ifF (by decide) ?_)
        rcases hok with ⟨a, ha, e⟩ | ⟨h0, a, ha, e⟩
        · rw [e, nI_1]
          exact w_ifF (nI_pos (by omega)) (c8 _ _ _ _ (by omega) ⟨a, by omega, Or.inl rfl⟩)
        · rw [e]
          exact w_ifT h0 (c8 _ _ _ _ (by omega) ⟨a, by omega, Or.inr rfl⟩)
      rw [en1]
      have c3 : Tt (fun K k9 => q_X13_braid K k9 3 (nI n) (nI c) (-1) (nI i) (v - 97) (v - 65) 0 0 0 y) (fun r => gI X r.2) := by
        refine u_X13_braid_3 ?_; unfold qm_X13_braid_3
        rw [en1]
        refine w_if (fun _ => c5 _ _) (fun h0 => w_if (fun _ => c5 _ _) (fun h1 => c4 _ _ (Or.inr ?_)))
        obtain ⟨a, ha, e⟩ : ∃ a, a < n - 1 ∧ v - 65 = nI a := by
          rcases pk_ix (v - 65) (n := n - 1) (by omega) with h9 | h9 | h9
          · exact absurd h9 h0
          · exact absurd h9 h1
          · exact h9
        refine ⟨?_, a, ha, e⟩
        have ev : v = nI (a + 65) := by
          have : v = v - 65 + 65 := (Int32.sub_add_cancel v 65).symm
          rw [this, e]
          exact nI_add a 65
        rw [ev]
        exact pk_sneg (b := 97) (by omega) (by omega)
      refine w_if (fun _ => c3) (fun h0 => w_if (fun h1 => c4 _ _ (Or.inl ?_)) (fun _ => c3))
      obtain ⟨a, ha31, e⟩ := nI_of h0
      rw [e] at h1 ⊢
      exact ⟨a, (nI_ltI ha31 (by omega)).mp h1, rfl⟩
  exact main 16 0 (usF z 1 0) (by omega) ⟨fr_rf, fun d hd j hj => rfl, fun j hj => by omega⟩
theorem u_X13_product_1 {x1 : Int32} {x2 : Int32} {x3 : Int32} {x4 : Int32} {t0 : Int32} {t1 : Int32} {z : ow_MS} {Q : (Int32 × ow_MS) → Prop} (H : Tt (fun K k => qm_X13_product_1 K (q_X13_product K k) x1 x2 x3 x4 t0 t1 z) Q) : Tt (fun K k => q_X13_product K k 1 x1 x2 x3 x4 t0 t1 z) Q := w_un (fun _ _ => rfl) H
theorem e_X13_product {x1 : Int32} {x2 : Int32} {z : ow_MS} {Q : (Int32 × ow_MS) → Prop} (H : Tt (fun K k => q_X13_product K k 0 x1 x2 0 0 0 0 z) Q) : Te (fun K => qe_X13_product K x1 x2 z) Q := w_te H
theorem u_X13_product_0 {x1 : Int32} {x2 : Int32} {x3 : Int32} {x4 : Int32} {t0 : Int32} {t1 : Int32} {z : ow_MS} {Q : (Int32 × ow_MS) → Prop} (H : Tt (fun K k => qm_X13_product_0 K (q_X13_product K k) x1 x2 x3 x4 t0 t1 z) Q) : Tt (fun K k => q_X13_product K k 0 x1 x2 x3 x4 t0 t1 z) Q := w_un (fun _ _ => rfl) H
theorem u_X13_product_2 {x1 : Int32} {x2 : Int32} {x3 : Int32} {x4 : Int32} {t0 : Int32} {t1 : Int32} {z : ow_MS} {Q : (Int32 × ow_MS) → Prop} (H : Tt (fun K k => qm_X13_product_2 K (q_X13_product K k) x1 x2 x3 x4 t0 t1 z) Q) : Tt (fun K k => q_X13_product K k 2 x1 x2 x3 x4 t0 t1 z) Q := w_un (fun _ _ => rfl) H
theorem u_X13_product_3 {x1 : Int32} {x2 : Int32} {x3 : Int32} {x4 : Int32} {t0 : Int32} {t1 : Int32} {z : ow_MS} {Q : (Int32 × ow_MS) → Prop} (H : Tt (fun K k => qm_X13_product_3 K (q_X13_product K k) x1 x2 x3 x4 t0 t1 z) Q) : Tt (fun K k => q_X13_product K k 3 x1 x2 x3 x4 t0 t1 z) Q := w_un (fun _ _ => rfl) H
theorem tp_product {a b : Int32} (h : gI X z) : Te (fun K => qe_X13_product K a b z) (fun r => gI X r.2) := by
  have h1 := gI_1 (c := 0) h
  have hB := h1.2.2.2.2.2.1
  have c1 : Tt (fun K k => q_X13_product K k 1 a b 0 0 0 0 (usF z 1 0)) (fun r => gI X r.2) := by
    refine u_X13_product_1 ?_; unfold qm_X13_product_1
    exact w_fail h1
  refine e_X13_product ?_
  refine u_X13_product_0 ?_; unfold qm_X13_product_0
  refine w_wrF (w_hasB hB (w_ifT rfl c1) (fun a9 n l ha hx hh => w_ifF (by decide) (w_hasB hB (w_ifT rfl c1) (fun b9 n2 l2 hb hy hh2 => w_ifF (by decide) ?_))))
  subst hx
  subst hy
  obtain ⟨p1, p2, p3, p4, p5, p6⟩ := hh
  obtain ⟨q1, q2, q3, q4, q5, q6⟩ := hh2
  refine w_rdI ml96 rfl (by omega) p4 (w_rdI ml96 rfl (by omega) q4 (w_eqN (by omega) (by omega) (fun hnn => w_rdI ml95 rfl (by omega) p5 (w_rdI ml95 rfl (by omega) q5 ?_)) (fun _ => w_fail h1)))
  subst hnn
  rw [nI_add]
  refine w_le (b := 16) (by omega) (by omega) (fun h16 => w_freeB hB (w_ifT rfl (w_fail h1)) (fun c hc hc0 => w_ifF (rn_neg1 (by omega)) ?_)) (fun _ => w_fail h1)
  have hca : c ≠ a9 := fun e => by
    rw [e, p4] at hc0
    exact nI_ne0 (by omega) (by omega) hc0
  have hcb : c ≠ b9 := fun e => by
    rw [e, q4] at hc0
    exact nI_ne0 (by omega) (by omega) hc0
  have main : ∀ (k i : Nat) (y : ow_MS), i + k = l + l2 → fr (fun g => g = 94) (usF z 1 0) y → (∀ d, d ≠ c → ∀ j, j < 16 → y.2.1 94 (16 * d + j) = (usF z 1 0).2.1 94 (16 * d + j)) → (∀ j, j < i → ltr n (y.2.1 94 (16 * c + j))) → Tt (fun K k9 => q_X13_product K k9 2 (nI a9) (nI b9) (nI c) (nI i) 0 0 y) (fun r => gI X r.2) := by
    intro k
    induction k with
    | zero =>
      intro i y hi hf hw hl
      have e5 := (hf 95 (by omega)).2.1
      have e6 := (hf 96 (by omega)).2.1
      have r5 : y.2.1 95 a9 = nI l := by rw [e5]; exact p5
      have s5 : y.2.1 95 b9 = nI l2 := by rw [e5]; exact q5
      have r6 : y.2.1 96 a9 = nI n := by rw [e6]; exact p4
      refine u_X13_product_2 ?_; unfold qm_X13_product_2
      refine w_rdI ml95 rfl (by omega) r5 (w_rdI ml95 rfl (by omega) s5 ?_)
      rw [nI_add]
      refine w_leT (by omega) (by omega) (w_rdI ml95 rfl (by omega) r5 (w_rdI ml95 rfl (by omega) s5 ?_))
      rw [nI_add]
      refine w_wrI ml95 rfl (by omega) (w_rdI ml96 rfl (by omega) (rd_ot (by decide) r6) (w_wrI ml96 rfl (by omega) (w_some ?_)))
      have f3 : fr (fun g => g = 94 ∨ g = 95 ∨ g = 96) (usF z 1 0) (usI (usI y 95 c (nI (l + l2))) 96 c (nI n)) := fr_I2 (fr_I2 (fr_mono (fun g hg => Or.inl hg) hf) (Or.inr (Or.inl rfl))) (Or.inr (Or.inr rfl))
      refine gI_br f3 (fun g hg => Or.inl (by omega)) (gBrs_new hB (c := c) (n := n) (l := l + l2) ⟨p1, p2, by omega, po_usI_at, rd_ot (by decide) po_usI_at, fun j hj => ?_⟩ (fun d hd => ?_) (fun d hd => ?_) (fun d hd j hj => ?_)) h1
      · rw [po_usI_ot (by decide), po_usI_ot (by decide)]
        exact hl j (by omega)
      · rw [po_usI_ne hd, po_usI_ot (by decide), e6]
      · rw [po_usI_ot (by decide), po_usI_ne hd, e5]
      · rw [po_usI_ot (by decide), po_usI_ot (by decide)]
        exact hw d hd j hj
    | succ k ih =>
      intro i y hi hf hw hl
      have e5 := (hf 95 (by omega)).2.1
      have r5 : y.2.1 95 a9 = nI l := by rw [e5]; exact p5
      have s5 : y.2.1 95 b9 = nI l2 := by rw [e5]; exact q5
      have c3 : ∀ t0 : Int32, ltr n t0 → Tt (fun K k9 => q_X13_product K k9 3 (nI a9) (nI b9) (nI c) (nI i) t0 (nI (16 * c + i)) y) (fun r => gI X r.2) := by
        intro t0 ht0
        refine u_X13_product_3 ?_; unfold qm_X13_product_3
        rw [nI_1]
        refine w_wrI ml94 rfl (by omega) (ih (i + 1) _ (by omega) (fr_I2 hf rfl) (fun d hd j hj => rd_ne (by omega) (hw d hd j hj)) (fun j hj => ?_))
        by_cases hji : j = i
        · rw [hji, po_usI_at]
          exact ht0
        · rw [po_usI_ne (by omega)]
          exact hl j (by omega)
      refine u_X13_product_2 ?_; unfold qm_X13_product_2
      refine w_rdI ml95 rfl (by omega) r5 (w_rdI ml95 rfl (by omega) s5 ?_)
      rw [nI_add, show (16 : Int32) * nI c = nI (16 * c) from pk_mul 16 c, nI_add, show (16 : Int32) * nI b9 = nI (16 * b9) from pk_mul 16 b9, nI_add, show (16 : Int32) * nI a9 = nI (16 * a9) from pk_mul 16 a9, nI_add]
      refine w_leF (by omega) (by omega) (w_rdI ml95 rfl (by omega) r5 (w_le (by omega) (by omega) (fun h9 => w_rdI ml95 rfl (by omega) r5 ?_) (fun h9 => ?_)))
      · rw [pk_sub (by omega)]
        refine w_rdI ml94 rfl (by omega) rfl (c3 _ ?_)
        rw [show 16 * b9 + i - l = 16 * b9 + (i - l) by omega, hw b9 (fun e => hcb e.symm) _ (by omega)]
        exact q6 _ (by omega)
      · refine w_rdI ml94 rfl (by omega) rfl (c3 _ ?_)
        rw [hw a9 (fun e => hca e.symm) _ (by omega)]
        exact p6 _ (by omega)
  exact main (l + l2) 0 (usF z 1 0) (by omega) fr_rf (fun _ _ _ _ => rfl) (fun j hj => by omega)
theorem e_X13_inverse {x1 : Int32} {z : ow_MS} {Q : (Int32 × ow_MS) → Prop} (H : Tt (fun K k => q_X13_inverse K k 0 x1 0 0 z) Q) : Te (fun K => qe_X13_inverse K x1 z) Q := w_te H
theorem u_X13_inverse_0 {x1 : Int32} {x2 : Int32} {x3 : Int32} {z : ow_MS} {Q : (Int32 × ow_MS) → Prop} (H : Tt (fun K k => qm_X13_inverse_0 K (q_X13_inverse K k) x1 x2 x3 z) Q) : Tt (fun K k => q_X13_inverse K k 0 x1 x2 x3 z) Q := w_un (fun _ _ => rfl) H
theorem u_X13_inverse_1 {x1 : Int32} {x2 : Int32} {x3 : Int32} {z : ow_MS} {Q : (Int32 × ow_MS) → Prop} (H : Tt (fun K k => qm_X13_inverse_1 K (q_X13_inverse K k) x1 x2 x3 z) Q) : Tt (fun K k => q_X13_inverse K k 1 x1 x2 x3 z) Q := w_un (fun _ _ => rfl) H
theorem tp_inverse {b : Int32} (h : gI X z) : Te (fun K => qe_X13_inverse K b z) (fun r => gI X r.2) := by
  have h1 := gI_1 (c := 0) h
  have hB := h1.2.2.2.2.2.1
  refine e_X13_inverse ?_
  refine u_X13_inverse_0 ?_; unfold qm_X13_inverse_0
  refine w_wrF (w_hasB hB (w_ifT rfl (w_fail h1)) (fun a9 n l ha hx hh => w_ifF (by decide) (w_freeB hB (w_ifT rfl (w_fail h1)) (fun c hc hc0 => w_ifF (rn_neg1 (by omega)) ?_))))
  subst hx
  obtain ⟨p1, p2, p3, p4, p5, p6⟩ := hh
  have hca : c ≠ a9 := fun e => by
    rw [e, p4] at hc0
    exact nI_ne0 (by omega) (by omega) hc0
  have main : ∀ (k i : Nat) (y : ow_MS), i + k = l → fr (fun g => g = 94) (usF z 1 0) y → (∀ d, d ≠ c → ∀ j, j < 16 → y.2.1 94 (16 * d + j) = (usF z 1 0).2.1 94 (16 * d + j)) → (∀ j, j < i → ltr n (y.2.1 94 (16 * c + j))) → Tt (fun K k9 => q_X13_inverse K k9 1 (nI a9) (nI c) (nI i) y) (fun r => gI X r.2) := by
    intro k
    induction k with
    | zero =>
      intro i y hi hf hw hl
      have e5 := (hf 95 (by omega)).2.1
      have e6 := (hf 96 (by omega)).2.1
      have r5 : y.2.1 95 a9 = nI l := by rw [e5]; exact p5
      have r6 : y.2.1 96 a9 = nI n := by rw [e6]; exact p4
      refine u_X13_inverse_1 ?_; unfold qm_X13_inverse_1
      refine w_rdI ml95 rfl (by omega) r5 (w_leT (by omega) (by omega) (w_rdI ml95 rfl (by omega) r5 (w_wrI ml95 rfl (by omega) (w_rdI ml96 rfl (by omega) (rd_ot (by decide) r6) (w_wrI ml96 rfl (by omega) (w_some ?_))))))
      have f3 : fr (fun g => g = 94 ∨ g = 95 ∨ g = 96) (usF z 1 0) (usI (usI y 95 c (nI l)) 96 c (nI n)) := fr_I2 (fr_I2 (fr_mono (fun g hg => Or.inl hg) hf) (Or.inr (Or.inl rfl))) (Or.inr (Or.inr rfl))
      refine gI_br f3 (fun g hg => Or.inl (by omega)) (gBrs_new hB (c := c) (n := n) (l := l) ⟨p1, p2, p3, po_usI_at, rd_ot (by decide) po_usI_at, fun j hj => ?_⟩ (fun d hd => ?_) (fun d hd => ?_) (fun d hd j hj => ?_)) h1
      · rw [po_usI_ot (by decide), po_usI_ot (by decide)]
        exact hl j (by omega)
      · rw [po_usI_ne hd, po_usI_ot (by decide), e6]
      · rw [po_usI_ot (by decide), po_usI_ne hd, e5]
      · rw [po_usI_ot (by decide), po_usI_ot (by decide)]
        exact hw d hd j hj
    | succ k ih =>
      intro i y hi hf hw hl
      have e5 := (hf 95 (by omega)).2.1
      have r5 : y.2.1 95 a9 = nI l := by rw [e5]; exact p5
      refine u_X13_inverse_1 ?_; unfold qm_X13_inverse_1
      refine w_rdI ml95 rfl (by omega) r5 (w_leF (by omega) (by omega) (w_rdI ml95 rfl (by omega) r5 ?_))
      rw [show (16 : Int32) * nI a9 = nI (16 * a9) from pk_mul 16 a9, nI_add, show nI (16 * a9 + l) - 1 = nI (16 * a9 + l - 1) from pk_sub (b := 1) (by omega), pk_sub (by omega), show (16 : Int32) * nI c = nI (16 * c) from pk_mul 16 c, nI_add, nI_1]
      refine w_rdI ml94 rfl (by omega) rfl (w_wrI ml94 rfl (by omega) (ih (i + 1) _ (by omega) (fr_I2 hf rfl) (fun d hd j hj => rd_ne (by omega) (hw d hd j hj)) (fun j hj => ?_)))
      by_cases hji : j = i
      · rw [hji, po_usI_at]
        refine ltr_neg ?_
        rw [show 16 * a9 + l - 1 - i = 16 * a9 + (l - 1 - i) by omega, hw a9 (fun e => hca e.symm) _ (by omega)]
        exact p6 _ (by omega)
      · rw [po_usI_ne (by omega)]
        exact hl j (by omega)
  exact main l 0 (usF z 1 0) (by omega) fr_rf (fun _ _ _ _ => rfl) (fun j hj => by omega)
theorem u_X13_summand_1 {x1 : Int32} {z : ow_MS} {Q : (Int32 × ow_MS) → Prop} (H : Tt (fun K k => qm_X13_summand_1 K (q_X13_summand K k) x1 z) Q) : Tt (fun K k => q_X13_summand K k 1 x1 z) Q := w_un (fun _ _ => rfl) H
theorem e_X13_summand {x1 : Int32} {z : ow_MS} {Q : (Int32 × ow_MS) → Prop} (H : Tt (fun K k => q_X13_summand K k 0 x1 z) Q) : Te (fun K => qe_X13_summand K x1 z) Q := w_te H
theorem u_X13_summand_0 {x1 : Int32} {z : ow_MS} {Q : (Int32 × ow_MS) → Prop} (H : Tt (fun K k => qm_X13_summand_0 K (q_X13_summand K k) x1 z) Q) : Tt (fun K k => q_X13_summand K k 0 x1 z) Q := w_un (fun _ _ => rfl) H
theorem tp_summand {k : Int32} (h : gI X z) : Te (fun K => qe_X13_summand K k z) (fun r => gI X r.2) := by
  have h1 := gI_1 (c := 0) h
  have c1 : Tt (fun K i => q_X13_summand K i 1 k (usF z 1 0)) (fun r => gI X r.2) := by
    refine u_X13_summand_1 ?_; unfold qm_X13_summand_1
    exact w_fail h1
  obtain ⟨L, l1, l2, l3, l4⟩ := h1.2.2.2.1
  refine e_X13_summand ?_
  refine u_X13_summand_0 ?_; unfold qm_X13_summand_0
  refine w_wrF (w_if (fun _ => c1) (fun h0 => w_rdF l2 (w_if (fun h9 => w_free (w_ifT rfl (w_fail h1)) (fun f hf hfr => w_ifF (rn_neg1 (by omega)) ?_)) (fun _ => c1))))
  obtain ⟨j, hj31, rfl⟩ := nI_of h0
  have hjL : j < L := (nI_ltI hj31 (by omega)).mp h9
  obtain ⟨i, hi, e⟩ := l3 j hjL
  refine w_rdI ml39 rfl (by omega) e ?_
  rw [show (32 : Int32) * nI i = nI (32 * i) from pk_mul 32 i]
  exact w_cs1 (tm_keepRow h1 hfr (by omega) ml35 (by omega) (by omega) (l4 i hi)) (fun _ _ h8 => w_some h8.1)
end BR
