/-! exact calls: dropBraid, inverse, of both -/
def bdQ (g : Nat) : Prop := 13 ≤ g ∧ g ≤ 15
/-- the least free place of the braids -/
def lfB (F : Nat → Int32) (c : Nat) : Prop := c < 20 ∧ F c = 0 ∧ ∀ d, d < c → F d ≠ 0
def noB (F : Nat → Int32) (x : Int32) : Prop := ∀ b, b < 20 → x = nI b → F b = 0
/-- a braid was written at c; the arrays of words, lengths, strands are g, g + 1, g + 2 -/
def nwB (g : Nat) (z z1 : ow_MS) (c n l : Nat) (w : Nat → Int32) : Prop := z1.2.1 (g + 2) c = nI n ∧ z1.2.1 (g + 1) c = nI l ∧ (∀ i, i < l → z1.2.1 g (16 * c + i) = w i) ∧ ∀ d, d ≠ c → z1.2.1 (g + 2) d = z.2.1 (g + 2) d ∧ z1.2.1 (g + 1) d = z.2.1 (g + 1) d ∧ ∀ i, i < 16 → z1.2.1 g (16 * d + i) = z.2.1 g (16 * d + i)
/-- the braids of the reference and of the class -/
def relB (z y : ow_MS) : Prop := ∀ b, b < 20 → z.2.1 96 b = y.2.1 15 b ∧ (z.2.1 96 b ≠ 0 → z.2.1 95 b = y.2.1 14 b ∧ ∀ l, l ≤ 16 → z.2.1 95 b = nI l → ∀ i, i < l → z.2.1 94 (16 * b + i) = y.2.1 13 (16 * b + i))
theorem relB_new {z z1 y y1 : ow_MS} {c n l : Nat} {w w' : Nat → Int32} (h : relB z y) (hl : l ≤ 16) (hz : nwB 94 z z1 c n l w) (hy : nwB 13 y y1 c n l w') (hw : ∀ i, i < l → w i = w' i) : relB z1 y1 := fun b hb => by
  by_cases e : b = c
  · subst e
    refine ⟨hz.1.trans hy.1.symm, fun _ => ⟨hz.2.1.trans hy.2.1.symm, fun l' hl' e' i hi => ?_⟩⟩
    have el : l = l' := nI_inj9 (by omega) (by omega) (hz.2.1.symm.trans e')
    subst el
    rw [hz.2.2.1 i hi]
    exact (hw i hi).trans (hy.2.2.1 i hi).symm
  · obtain ⟨a1, a2, a3⟩ := hz.2.2.2 b e
    obtain ⟨b1, b2, b3⟩ := hy.2.2.2 b e
    obtain ⟨h1, h2⟩ := h b hb
    refine ⟨a1.trans (h1.trans b1.symm), fun h0 => ?_⟩
    obtain ⟨k1, k2⟩ := h2 (fun h9 => h0 (a1.trans h9))
    refine ⟨a2.trans (k1.trans b2.symm), fun l' hl' e' i hi => ?_⟩
    rw [a3 i (by omega), k2 l' hl' (a2.symm.trans e') i hi]
    exact (b3 i (by omega)).symm
theorem lfB_uni {F G : Nat → Int32} {c d : Nat} (hFG : ∀ b, b < 20 → F b = G b) (h1 : lfB F c) (h2 : lfB G d) : c = d := by
  rcases Nat.lt_trichotomy c d with q | q | q
  · exact absurd ((hFG c h1.1).symm.trans h1.2.1) (h2.2.2 c q)
  · exact q
  · exact absurd ((hFG d h2.1).trans h2.2.1) (h1.2.2 d q)
section XBR
variable {X : (Nat → Nat → Int32) → Prop} {z : ow_MS}
theorem w_hasBX {O : Type} {x : Int32} {Q : O → Prop} {B : Int32 → ow_MS → Nat → Nat → Option O} (h : gBrs z) (H0 : noB (z.2.1 96) x → Tt (B 0 z) Q) (H1 : ∀ b n l, b < 20 → x = nI b → hBr z b n l → Tt (B 1 z) Q) : Tt (fun K k => cs1 (qe_X13_hasBraid K x z) fun v z1 => B v z1 K k) Q := by
  have key : Te (fun K => qe_X13_hasBraid K x z) (fun r => r = (0, z) ∧ noB (z.2.1 96) x ∨ r = (1, z) ∧ ∃ b n l, b < 20 ∧ x = nI b ∧ hBr z b n l) := by
    refine e_X13_hasBraid ?_; unfold qm_X13_hasBraid_0
    refine w_if (fun h9 => w_okZ (Or.inl rfl) (w_some (Or.inl ⟨rfl, fun b hb e => ?_⟩))) (fun h0 => w_if (fun h9 => w_okZ (Or.inl rfl) (w_some (Or.inl ⟨rfl, fun b hb e => ?_⟩))) (fun h1 => ?_))
    · rw [e] at h9
      exact absurd h9 (nI_pos (by omega))
    · rw [e] at h9
      have := (nI_leI (a := 20) (b := b) (by omega) (by omega)).mp h9
      omega
    obtain ⟨b, hb, rfl⟩ : ∃ b, b < 20 ∧ x = nI b := by
      rcases pk_ix x (n := 20) (by omega) with h9 | h9 | h9
      · exact absurd h9 h0
      · exact absurd h9 h1
      · exact h9
    refine w_rdI ml96 rfl (by omega) rfl (w_if (fun h9 => w_okZ (Or.inl rfl) (w_some (Or.inl ⟨rfl, fun b' hb' e => ?_⟩))) (fun h9 => w_okZ (Or.inr rfl) (w_some (Or.inr ⟨rfl, ?_⟩))))
    · have eb : b = b' := nI_inj9 (by omega) (by omega) e
      subst eb
      rcases gBr_h (h b hb) with e | ⟨n, l, hh⟩
      · exact e
      · rw [hh.2.2.2.1] at h9
        exact absurd h9 (nI_nle (by have := hh.1; omega) (by have := hh.2.1; omega))
    · rcases gBr_h (h b hb) with e | ⟨n, l, hh⟩
      · rw [e] at h9
        exact absurd (by decide) h9
      · exact ⟨b, n, l, hb, rfl, hh⟩
  refine w_cs1 key (fun a z1 e => ?_)
  rcases e with ⟨e, h8⟩ | ⟨e, b, n, l, hb, hx, hh⟩
  · cases e
    exact H0 h8
  · cases e
    exact H1 b n l hb hx hh
theorem w_freeBX {O : Type} {Q : O → Prop} {B : Int32 → ow_MS → Nat → Nat → Option O} (h : gBrs z) (H0 : (∀ c, c < 20 → z.2.1 96 c ≠ 0) → Tt (B (-1) z) Q) (H1 : ∀ c, lfB (z.2.1 96) c → Tt (B (nI c) z) Q) : Tt (fun K k => cs1 (qe_X13_freeBraid K z) fun v z1 => B v z1 K k) Q := by
  have key : Te (fun K => qe_X13_freeBraid K z) (fun r => r = (-1, z) ∧ (∀ c, c < 20 → z.2.1 96 c ≠ 0) ∨ ∃ c, r = (nI c, z) ∧ lfB (z.2.1 96) c) := by
    have lp : ∀ (k c : Nat), c + k = 20 → (∀ d, d < c → z.2.1 96 d ≠ 0) → Tt (fun K i => q_X13_freeBraid K i 1 (nI c) z) (fun r => r = (-1, z) ∧ (∀ c, c < 20 → z.2.1 96 c ≠ 0) ∨ ∃ c, r = (nI c, z) ∧ lfB (z.2.1 96) c) := by
      intro k
      induction k with
      | zero =>
        intro c hc hall
        refine u_X13_freeBraid_1 ?_; unfold qm_X13_freeBraid_1
        refine w_leT (a := 20) (by omega) (by omega) ?_
        refine u_X13_freeBraid_2 ?_; unfold qm_X13_freeBraid_2
        exact w_leT (a := 20) (by omega) (by omega) (w_some (Or.inl ⟨rfl, fun d hd => hall d (by omega)⟩))
      | succ k ih =>
        intro c hc hall
        refine u_X13_freeBraid_1 ?_; unfold qm_X13_freeBraid_1
        rw [nI_1]
        refine w_leF (a := 20) (by omega) (by omega) (w_rdI ml96 rfl (by omega) rfl (w_if (fun h9 => ?_) (fun h9 => ih (c + 1) (by omega) (fun d hd => ?_))))
        · refine u_X13_freeBraid_2 ?_; unfold qm_X13_freeBraid_2
          refine w_leF (a := 20) (by omega) (by omega) (w_some (Or.inr ⟨c, rfl, by omega, ?_, hall⟩))
          rcases gBr_h (h c (by omega)) with e | ⟨n, l, hh⟩
          · exact e
          · rw [hh.2.2.2.1] at h9
            exact absurd h9 (nI_nle (by have := hh.1; omega) (by have := hh.2.1; omega))
        · by_cases e : d = c
          · rw [e]
            intro e0
            rw [e0] at h9
            exact absurd (by decide) h9
          · exact hall d (by omega)
    refine e_X13_freeBraid ?_
    refine u_X13_freeBraid_0 ?_; unfold qm_X13_freeBraid_0
    exact lp 20 0 (by omega) (fun d hd => by omega)
  refine w_cs1 key (fun a z1 e => ?_)
  rcases e with ⟨e, h8⟩ | ⟨c, e, h9⟩
  · cases e
    exact H0 h8
  · cases e
    exact H1 c h9
theorem xq_inverse {x : Int32} (h : gI X z) : Te (fun K => qe_X13_inverse K x z) (fun r => rFl X z 1 r ∧ noB (z.2.1 96) x ∨ ∃ a n l, a < 20 ∧ x = nI a ∧ hBr z a n l ∧ (rFl X z 2 r ∧ (∀ c, c < 20 → z.2.1 96 c ≠ 0) ∨ ∃ c, lfB (z.2.1 96) c ∧ r.1 = nI c ∧ gI X r.2 ∧ r.2.1 1 = 0 ∧ fr (fun g => g = 1 ∨ 94 ≤ g ∧ g ≤ 96) z r.2 ∧ nwB 94 z r.2 c n l (fun i => 0 - z.2.1 94 (16 * a + (l - 1 - i))))) := by
  let Q : Int32 × ow_MS → Prop := fun r => rFl X z 1 r ∧ noB (z.2.1 96) x ∨ ∃ a n l, a < 20 ∧ x = nI a ∧ hBr z a n l ∧ (rFl X z 2 r ∧ (∀ c, c < 20 → z.2.1 96 c ≠ 0) ∨ ∃ c, lfB (z.2.1 96) c ∧ r.1 = nI c ∧ gI X r.2 ∧ r.2.1 1 = 0 ∧ fr (fun g => g = 1 ∨ 94 ≤ g ∧ g ≤ 96) z r.2 ∧ nwB 94 z r.2 c n l (fun i => 0 - z.2.1 94 (16 * a + (l - 1 - i))))
  have h1 := gI_1 (c := 0) h
  have hB := h1.2.2.2.2.2.1
  refine e_X13_inverse ?_
  refine u_X13_inverse_0 ?_; unfold qm_X13_inverse_0
  refine w_wrF (w_hasBX hB (fun h0 => w_ifT rfl (w_mono (w_failX h1 fr_1) (fun r hr => Or.inl ⟨hr, h0⟩))) (fun a9 n l ha hx hh => w_ifF (by decide) (w_freeBX hB (fun h0 => w_ifT rfl (w_mono (w_failX (k := 2) h1 fr_1) (fun r hr => Or.inr ⟨a9, n, l, ha, hx, hh, Or.inl ⟨hr, h0⟩⟩))) (fun c hlf => w_ifF (rn_neg1 (by have := hlf.1; omega)) ?_))))
  subst hx
  have hh0 := hh
  obtain ⟨p1, p2, p3, p4, p5, p6⟩ := hh
  have hc := hlf.1
  have hca : c ≠ a9 := fun e => by
    have hc0 := hlf.2.1
    rw [e, p4] at hc0
    exact nI_ne0 (by omega) (by omega) hc0
  have main : ∀ (k i : Nat) (y : ow_MS), i + k = l → fr (fun g => g = 94) (usF z 1 0) y → (∀ d, d ≠ c → ∀ j, j < 16 → y.2.1 94 (16 * d + j) = (usF z 1 0).2.1 94 (16 * d + j)) → (∀ j, j < i → ltr n (y.2.1 94 (16 * c + j))) → (∀ j, j < i → y.2.1 94 (16 * c + j) = 0 - z.2.1 94 (16 * a9 + (l - 1 - j))) → Tt (fun K k9 => q_X13_inverse K k9 1 (nI a9) (nI c) (nI i) y) Q := by
    intro k
    induction k with
    | zero =>
      intro i y hi hf hw hl hv
      have e5 := (hf 95 (by omega)).2.1
      have e6 := (hf 96 (by omega)).2.1
      have r5 : y.2.1 95 a9 = nI l := by rw [e5]; exact p5
      have r6 : y.2.1 96 a9 = nI n := by rw [e6]; exact p4
      refine u_X13_inverse_1 ?_; unfold qm_X13_inverse_1
      refine w_rdI ml95 rfl (by omega) r5 (w_leT (by omega) (by omega) (w_rdI ml95 rfl (by omega) r5 (w_wrI ml95 rfl (by omega) (w_rdI ml96 rfl (by omega) (rd_ot (by decide) r6) (w_wrI ml96 rfl (by omega) (w_some ?_))))))
      have f3 : fr (fun g => g = 94 ∨ g = 95 ∨ g = 96) (usF z 1 0) (usI (usI y 95 c (nI l)) 96 c (nI n)) := fr_I2 (fr_I2 (fr_mono (fun g hg => Or.inl hg) hf) (Or.inr (Or.inl rfl))) (Or.inr (Or.inr rfl))
      have e4 : (usI (usI y 95 c (nI l)) 96 c (nI n)).2.1 94 = y.2.1 94 := by rw [po_usI_ot (by decide), po_usI_ot (by decide)]
      have k5 : (usI (usI y 95 c (nI l)) 96 c (nI n)).2.1 95 c = nI l := rd_ot (by decide) po_usI_at
      refine Or.inr ⟨a9, n, l, ha, rfl, hh0, Or.inr ⟨c, hlf, rfl, gI_br f3 (fun g hg => Or.inl (by omega)) (gBrs_new hB (c := c) (n := n) (l := l) ⟨p1, p2, p3, po_usI_at, k5, fun j hj => ?_⟩ (fun d hd => ?_) (fun d hd => ?_) (fun d hd j hj => ?_)) h1, ?_, fr_tr (fr_F (Or.inl rfl)) (fr_mono (fun g hg => by omega) f3), po_usI_at, k5, fun j hj => ?_, fun d hd => ⟨?_, ?_, fun j hj => ?_⟩⟩⟩
      · rw [e4]
        exact hl j (by omega)
      · rw [po_usI_ne hd, po_usI_ot (by decide), e6]
      · rw [po_usI_ot (by decide), po_usI_ne hd, e5]
      · rw [e4]
        exact hw d hd j hj
      · show (usI (usI y 95 c (nI l)) 96 c (nI n)).1 1 = 0
        rw [(f3 1 (by omega)).1]
        exact po_usF_at
      · show (usI (usI y 95 c (nI l)) 96 c (nI n)).2.1 94 (16 * c + j) = _
        rw [e4]
        exact hv j (by omega)
      · show (usI (usI y 95 c (nI l)) 96 c (nI n)).2.1 96 d = _
        rw [po_usI_ne hd, po_usI_ot (by decide), e6]
        rfl
      · show (usI (usI y 95 c (nI l)) 96 c (nI n)).2.1 95 d = _
        rw [po_usI_ot (by decide), po_usI_ne hd, e5]
        rfl
      · show (usI (usI y 95 c (nI l)) 96 c (nI n)).2.1 94 (16 * d + j) = _
        rw [e4]
        exact hw d hd j hj
    | succ k ih =>
      intro i y hi hf hw hl hv
      have e5 := (hf 95 (by omega)).2.1
      have r5 : y.2.1 95 a9 = nI l := by rw [e5]; exact p5
      have rv : y.2.1 94 (16 * a9 + l - 1 - i) = z.2.1 94 (16 * a9 + (l - 1 - i)) := by
        rw [show 16 * a9 + l - 1 - i = 16 * a9 + (l - 1 - i) by omega, hw a9 (fun e => hca e.symm) _ (by omega)]
        rfl
      refine u_X13_inverse_1 ?_; unfold qm_X13_inverse_1
      refine w_rdI ml95 rfl (by omega) r5 (w_leF (by omega) (by omega) (w_rdI ml95 rfl (by omega) r5 ?_))
      rw [show (16 : Int32) * nI a9 = nI (16 * a9) from pk_mul 16 a9, nI_add, show nI (16 * a9 + l) - 1 = nI (16 * a9 + l - 1) from pk_sub (b := 1) (by omega), pk_sub (by omega), show (16 : Int32) * nI c = nI (16 * c) from pk_mul 16 c, nI_add, nI_1]
      refine w_rdI ml94 rfl (by omega) rv (w_wrI ml94 rfl (by omega) (ih (i + 1) _ (by omega) (fr_I2 hf rfl) (fun d hd j hj => rd_ne (by omega) (hw d hd j hj)) (fun j hj => ?_) (fun j hj => ?_)))
      · by_cases hji : j = i
        · rw [hji, po_usI_at]
          exact ltr_neg (p6 _ (by omega))
        · rw [po_usI_ne (by omega)]
          exact hl j (by omega)
      · by_cases hji : j = i
        · rw [hji, po_usI_at]
        · rw [po_usI_ne (by omega)]
          exact hv j (by omega)
  exact main l 0 (usF z 1 0) (by omega) fr_rf (fun _ _ _ _ => rfl) (fun j hj => by omega) (fun j hj => by omega)
end XBR
