/-! exact calls: product -/
def wpr (z : ow_MS) (g a l b i : Nat) : Int32 := if i < l then z.2.1 g (16 * a + i) else z.2.1 g (16 * b + (i - l))
section XPR
variable {X : (Nat → Nat → Int32) → Prop} {z : ow_MS}
theorem xq_product {a b : Int32} (h : gI X z) : Te (fun K => qe_X13_product K a b z) (fun r => (rFl X z 1 r ∧ (noB (z.2.1 96) a ∨ noB (z.2.1 96) b) ∨ ∃ a9 n l b9 n2 l2, a9 < 20 ∧ a = nI a9 ∧ hBr z a9 n l ∧ b9 < 20 ∧ b = nI b9 ∧ hBr z b9 n2 l2 ∧ (rFl X z 2 r ∧ n ≠ n2 ∨ n = n2 ∧ (rFl X z 3 r ∧ 16 < l + l2 ∨ l + l2 ≤ 16 ∧ (rFl X z 4 r ∧ (∀ c, c < 20 → z.2.1 96 c ≠ 0) ∨ ∃ c, lfB (z.2.1 96) c ∧ r.1 = nI c ∧ gI X r.2 ∧ r.2.1 1 = 0 ∧ fr (fun g => g = 1 ∨ 94 ≤ g ∧ g ≤ 96) z r.2 ∧ nwB 94 z r.2 c n (l + l2) (wpr z 94 a9 l b9)))))) := by
  let Q : Int32 × ow_MS → Prop := fun r => (rFl X z 1 r ∧ (noB (z.2.1 96) a ∨ noB (z.2.1 96) b) ∨ ∃ a9 n l b9 n2 l2, a9 < 20 ∧ a = nI a9 ∧ hBr z a9 n l ∧ b9 < 20 ∧ b = nI b9 ∧ hBr z b9 n2 l2 ∧ (rFl X z 2 r ∧ n ≠ n2 ∨ n = n2 ∧ (rFl X z 3 r ∧ 16 < l + l2 ∨ l + l2 ≤ 16 ∧ (rFl X z 4 r ∧ (∀ c, c < 20 → z.2.1 96 c ≠ 0) ∨ ∃ c, lfB (z.2.1 96) c ∧ r.1 = nI c ∧ gI X r.2 ∧ r.2.1 1 = 0 ∧ fr (fun g => g = 1 ∨ 94 ≤ g ∧ g ≤ 96) z r.2 ∧ nwB 94 z r.2 c n (l + l2) (wpr z 94 a9 l b9)))))
  have h1 := gI_1 (c := 0) h
  have hB := h1.2.2.2.2.2.1
  have c1 : (noB (z.2.1 96) a ∨ noB (z.2.1 96) b) → Tt (fun K k => q_X13_product K k 1 a b 0 0 0 0 (usF z 1 0)) Q := by
    intro hno
    refine u_X13_product_1 ?_; unfold qm_X13_product_1
    exact w_mono (w_failX (k := 1) h1 fr_1) (fun r hr => Or.inl ⟨hr, hno⟩)
  refine e_X13_product ?_
  refine u_X13_product_0 ?_; unfold qm_X13_product_0
  refine w_wrF (w_hasBX hB (fun h0 => w_ifT rfl (c1 (Or.inl h0))) (fun a9 n l ha hx hh => w_ifF (by decide) (w_hasBX hB (fun h0 => w_ifT rfl (c1 (Or.inr h0))) (fun b9 n2 l2 hb hy hh2 => w_ifF (by decide) ?_))))
  subst hx
  subst hy
  have hh0 := hh
  have hh20 := hh2
  have fin : ∀ {r}, (rFl X z 2 r ∧ n ≠ n2 ∨ n = n2 ∧ (rFl X z 3 r ∧ 16 < l + l2 ∨ l + l2 ≤ 16 ∧ (rFl X z 4 r ∧ (∀ c, c < 20 → z.2.1 96 c ≠ 0) ∨ ∃ c, lfB (z.2.1 96) c ∧ r.1 = nI c ∧ gI X r.2 ∧ r.2.1 1 = 0 ∧ fr (fun g => g = 1 ∨ 94 ≤ g ∧ g ≤ 96) z r.2 ∧ nwB 94 z r.2 c n (l + l2) (wpr z 94 a9 l b9)))) → Q r := fun hr => Or.inr ⟨a9, n, l, b9, n2, l2, ha, rfl, hh0, hb, rfl, hh20, hr⟩
  obtain ⟨p1, p2, p3, p4, p5, p6⟩ := hh
  obtain ⟨q1, q2, q3, q4, q5, q6⟩ := hh2
  refine w_rdI ml96 rfl (by omega) p4 (w_rdI ml96 rfl (by omega) q4 (w_eqN (by omega) (by omega) (fun hnn => w_rdI ml95 rfl (by omega) p5 (w_rdI ml95 rfl (by omega) q5 ?_)) (fun hnn => w_mono (w_failX (k := 2) h1 fr_1) (fun r hr => fin (Or.inl ⟨hr, hnn⟩)))))
  subst hnn
  rw [nI_add]
  refine w_le (b := 16) (by omega) (by omega) (fun h16 => w_freeBX hB (fun h0 => w_ifT rfl (w_mono (w_failX (k := 4) h1 fr_1) (fun r hr => fin (Or.inr ⟨rfl, Or.inr ⟨h16, Or.inl ⟨hr, h0⟩⟩⟩)))) (fun c hlf => w_ifF (rn_neg1 (by have := hlf.1; omega)) ?_)) (fun h16 => w_mono (w_failX (k := 3) h1 fr_1) (fun r hr => fin (Or.inr ⟨rfl, Or.inl ⟨hr, by omega⟩⟩)))
  have hc := hlf.1
  have hc0 := hlf.2.1
  have hca : c ≠ a9 := fun e => by
    rw [e, p4] at hc0
    exact nI_ne0 (by omega) (by omega) hc0
  have hcb : c ≠ b9 := fun e => by
    rw [e, q4] at hc0
    exact nI_ne0 (by omega) (by omega) hc0
  have main : ∀ (k i : Nat) (y : ow_MS), i + k = l + l2 → fr (fun g => g = 94) (usF z 1 0) y → (∀ d, d ≠ c → ∀ j, j < 16 → y.2.1 94 (16 * d + j) = (usF z 1 0).2.1 94 (16 * d + j)) → (∀ j, j < i → ltr n (y.2.1 94 (16 * c + j))) → (∀ j, j < i → y.2.1 94 (16 * c + j) = wpr z 94 a9 l b9 j) → Tt (fun K k9 => q_X13_product K k9 2 (nI a9) (nI b9) (nI c) (nI i) 0 0 y) Q := by
    intro k
    induction k with
    | zero =>
      intro i y hi hf hw hl hv
      have e5 := (hf 95 (by omega)).2.1
      have e6 := (hf 96 (by omega)).2.1
      have r5 : y.2.1 95 a9 = nI l := by rw [e5]; exact p5
      have s5 : y.2.1 95 b9 = nI l2 := by rw [e5]; exact q5
      have r6 : y.2.1 96 a9 = nI n := by rw [e6]; exact p4
      refine u_X13_product_2 ?_; unfold qm_X13_product_2
      refine w_rdI ml95 rfl (by omega) r5 (w_rdI ml95 rfl (by omega) s5 ?_)
      rw [nI_add]
      refine w_leT (by omega) (by omega) (w_rdI ml95 rfl (by omega) r5 (w_rdI ml95 rfl (by omega) s5 ?_))
      rw [nI_add]
      refine w_wrI ml95 rfl (by omega) (w_rdI ml96 rfl (by omega) (rd_ot (by decide) r6) (w_wrI ml96 rfl (by omega) (w_some ?_)))
      have f3 : fr (fun g => g = 94 ∨ g = 95 ∨ g = 96) (usF z 1 0) (usI (usI y 95 c (nI (l + l2))) 96 c (nI n)) := fr_I2 (fr_I2 (fr_mono (fun g hg => Or.inl hg) hf) (Or.inr (Or.inl rfl))) (Or.inr (Or.inr rfl))
      have e4 : (usI (usI y 95 c (nI (l + l2))) 96 c (nI n)).2.1 94 = y.2.1 94 := by rw [po_usI_ot (by decide), po_usI_ot (by decide)]
      have k5 : (usI (usI y 95 c (nI (l + l2))) 96 c (nI n)).2.1 95 c = nI (l + l2) := rd_ot (by decide) po_usI_at
      refine fin (Or.inr ⟨rfl, Or.inr ⟨h16, Or.inr ⟨c, hlf, rfl, gI_br f3 (fun g hg => Or.inl (by omega)) (gBrs_new hB (c := c) (n := n) (l := l + l2) ⟨p1, p2, by omega, po_usI_at, k5, fun j hj => ?_⟩ (fun d hd => ?_) (fun d hd => ?_) (fun d hd j hj => ?_)) h1, ?_, fr_tr (fr_F (Or.inl rfl)) (fr_mono (fun g hg => by omega) f3), po_usI_at, k5, fun j hj => ?_, fun d hd => ⟨?_, ?_, fun j hj => ?_⟩⟩⟩⟩)
      · rw [e4]
        exact hl j (by omega)
      · rw [po_usI_ne hd, po_usI_ot (by decide), e6]
      · rw [po_usI_ot (by decide), po_usI_ne hd, e5]
      · rw [e4]
        exact hw d hd j hj
      · show (usI (usI y 95 c (nI (l + l2))) 96 c (nI n)).1 1 = 0
        rw [(f3 1 (by omega)).1]
        exact po_usF_at
      · show (usI (usI y 95 c (nI (l + l2))) 96 c (nI n)).2.1 94 (16 * c + j) = _
        rw [e4]
        exact hv j (by omega)
      · show (usI (usI y 95 c (nI (l + l2))) 96 c (nI n)).2.1 96 d = _
        rw [po_usI_ne hd, po_usI_ot (by decide), e6]
        rfl
      · show (usI (usI y 95 c (nI (l + l2))) 96 c (nI n)).2.1 95 d = _
        rw [po_usI_ot (by decide), po_usI_ne hd, e5]
        rfl
      · show (usI (usI y 95 c (nI (l + l2))) 96 c (nI n)).2.1 94 (16 * d + j) = _
        rw [e4]
        exact hw d hd j hj
    | succ k ih =>
      intro i y hi hf hw hl hv
      have e5 := (hf 95 (by omega)).2.1
      have r5 : y.2.1 95 a9 = nI l := by rw [e5]; exact p5
      have s5 : y.2.1 95 b9 = nI l2 := by rw [e5]; exact q5
      have c3 : ∀ t0 : Int32, ltr n t0 → t0 = wpr z 94 a9 l b9 i → Tt (fun K k9 => q_X13_product K k9 3 (nI a9) (nI b9) (nI c) (nI i) t0 (nI (16 * c + i)) y) Q := by
        intro t0 ht0 ht1
        refine u_X13_product_3 ?_; unfold qm_X13_product_3
        rw [nI_1]
        refine w_wrI ml94 rfl (by omega) (ih (i + 1) _ (by omega) (fr_I2 hf rfl) (fun d hd j hj => rd_ne (by omega) (hw d hd j hj)) (fun j hj => ?_) (fun j hj => ?_))
        · by_cases hji : j = i
          · rw [hji, po_usI_at]
            exact ht0
          · rw [po_usI_ne (by omega)]
            exact hl j (by omega)
        · by_cases hji : j = i
          · rw [hji, po_usI_at]
            exact ht1
          · rw [po_usI_ne (by omega)]
            exact hv j (by omega)
      refine u_X13_product_2 ?_; unfold qm_X13_product_2
      refine w_rdI ml95 rfl (by omega) r5 (w_rdI ml95 rfl (by omega) s5 ?_)
      rw [nI_add, show (16 : Int32) * nI c = nI (16 * c) from pk_mul 16 c, nI_add, show (16 : Int32) * nI b9 = nI (16 * b9) from pk_mul 16 b9, nI_add, show (16 : Int32) * nI a9 = nI (16 * a9) from pk_mul 16 a9, nI_add]
      refine w_leF (by omega) (by omega) (w_rdI ml95 rfl (by omega) r5 (w_le (by omega) (by omega) (fun h9 => w_rdI ml95 rfl (by omega) r5 ?_) (fun h9 => ?_)))
      · rw [pk_sub (by omega)]
        have e9 : y.2.1 94 (16 * b9 + i - l) = z.2.1 94 (16 * b9 + (i - l)) := by
          rw [show 16 * b9 + i - l = 16 * b9 + (i - l) by omega, hw b9 (fun e => hcb e.symm) _ (by omega)]
          rfl
        refine w_rdI ml94 rfl (by omega) e9 (c3 _ (q6 _ (by omega)) ?_)
        unfold wpr
        rw [if_neg (by omega)]
      · have e9 : y.2.1 94 (16 * a9 + i) = z.2.1 94 (16 * a9 + i) := hw a9 (fun e => hca e.symm) _ (by omega)
        refine w_rdI ml94 rfl (by omega) e9 (c3 _ (p6 _ (by omega)) ?_)
        unfold wpr
        rw [if_pos (by omega)]
  exact main (l + l2) 0 (usF z 1 0) (by omega) fr_rf (fun _ _ _ _ => rfl) (fun j hj => by omega) (fun j hj => by omega)
end XPR
section XPC
variable {vl : Nat → Nat} {y : ow_MS} {x x' : Int32}
theorem xc_product (hB : brC y) : Te (fun K => ce_X11_product vl K 0 x x' y) (fun r => (r.1 = 1 ∧ r.2.2 = y ∧ (noB (y.2.1 15) x ∨ noB (y.2.1 15) x') ∨ ∃ a n l b n' l', a < 20 ∧ x = nI a ∧ 2 ≤ n ∧ n ≤ 5 ∧ y.2.1 15 a = nI n ∧ l ≤ 16 ∧ y.2.1 14 a = nI l ∧ b < 20 ∧ x' = nI b ∧ 2 ≤ n' ∧ n' ≤ 5 ∧ y.2.1 15 b = nI n' ∧ l' ≤ 16 ∧ y.2.1 14 b = nI l' ∧ (r.1 = 2 ∧ r.2.2 = y ∧ n ≠ n' ∨ n = n' ∧ (r.1 = 4 ∧ r.2.2 = y ∧ 16 < l + l' ∨ l + l' ≤ 16 ∧ (r.1 = 3 ∧ r.2.2 = y ∧ (∀ c, c < 20 → y.2.1 15 c ≠ 0) ∨ r.1 = 0 ∧ ∃ c, lfB (y.2.1 15) c ∧ r.2.1 = nI c ∧ brC r.2.2 ∧ fr bdQ y r.2.2 ∧ nwB 13 y r.2.2 c n (l + l') (wpr y 13 a l b)))))) := by
  refine e_X11_product ?_; unfold cm_X11_product_0
  refine w_tc0 (tc_needBraid (brC_E hB)) ?_ ?_
  · rintro y1 ⟨h1, rfl⟩
    rcases h1 with ⟨-, hb⟩ | h1
    · obtain ⟨a, n, l, ha20, rfl, hn2, hn5, e15, l16, e14, hw⟩ := isB_w hB hb
      refine w_tc0 (tc_needBraid (brC_E hB)) ?_ ?_
      · rintro y2 ⟨h2, rfl⟩
        rcases h2 with ⟨-, hb'⟩ | h2
        · obtain ⟨b, n', l', hb20, rfl, hn2', hn5', e15', l16', e14', hw'⟩ := isB_w hB hb'
          refine w_crI ch_15 rfl ha20 e15 (w_crI ch_15 rfl hb20 e15' (w_eqN (by omega) (by omega) (fun enn => w_crI ch_14 rfl ha20 e14 (w_crI ch_14 rfl hb20 e14' ?_)) (fun enn => w_some (Or.inr ⟨a, n, l, b, n', l', ha20, rfl, hn2, hn5, e15, l16, e14, hb20, rfl, hn2', hn5', e15', l16', e14', Or.inl ⟨rfl, rfl, enn⟩⟩))))
          rw [nI_add]
          refine w_le (b := 16) (by omega) (by omega) (fun h16 => ?_) (fun h16 => w_some (Or.inr ⟨a, n, l, b, n', l', ha20, rfl, hn2, hn5, e15, l16, e14, hb20, rfl, hn2', hn5', e15', l16', e14', Or.inr ⟨enn, Or.inl ⟨rfl, rfl, by omega⟩⟩⟩))
          refine w_tc1 tc_freeBraid ?_ ?_
          · rintro v y3 ⟨h3, rfl⟩
            rcases h3 with ⟨d, hd, -, rfl, e0, eall⟩ | h3
            · have had : a ≠ d := fun e => by
                rw [e, e0] at e15
                have := nI_inj9 (a := 0) (b := n) (by omega) (by omega) e15
                omega
              have hbd : b ≠ d := fun e => by
                rw [e, e0] at e15'
                have := nI_inj9 (a := 0) (b := n') (by omega) (by omega) e15'
                omega
              rw [m16, m16, m16]
              refine w_crI ch_14 rfl ha20 e14 ?_
              have cpb : ∀ {E : ow_MS → Nat → Nat → Option (Nat × Int32 × ow_MS)} {Q : Nat × Int32 × ow_MS → Prop} (z : ow_MS) (s t m : Nat), s + m ≤ 320 → t + m ≤ 320 → (∀ i, i < m → fits .byte (.int (z.2.1 13 (s + i))) = true) → Tt (E (usR z 13 (va_cpy (z.2.1 13) (z.2.1 13) s t m))) Q → Tt (fun K k => cpB (cX vl) z 13 (nI s) 13 (nI t) (nI m) (fun v => E v K k)) Q := by
                intro E Q z s t m h1 h2 h3 H
                unfold cpB
                refine w_ifT (fun i hi => ?_) (w_cpI (a := s) (b := t) (n := m) ch_13 ch_13 rfl rfl rfl h1 h2 H)
                rw [nI_clamp (by omega)] at hi
                rw [nI_clamp (by omega)]
                exact h3 i hi
              refine cpb y3 (16 * a) (16 * d) l (by omega) (by omega) (fun i hi => ?_) ?_
              · obtain ⟨q, q1, q2, q3⟩ := hw i hi
                rw [q1]
                exact (lt_a (by omega)).2.1
              · have k4 : (usR y3 13 (va_cpy (y3.2.1 13) (y3.2.1 13) (16 * a) (16 * d) l)).2.1 14 = y3.2.1 14 := usR_ot (by omega)
                have k3 : ∀ k, k < 16 * d ∨ 16 * d + 16 ≤ k → (usR y3 13 (va_cpy (y3.2.1 13) (y3.2.1 13) (16 * a) (16 * d) l)).2.1 13 k = y3.2.1 13 k := by
                  intro k hk
                  rw [usR_at]
                  exact pk_cpy_out (by omega)
                have k3' : ∀ i, i < l → (usR y3 13 (va_cpy (y3.2.1 13) (y3.2.1 13) (16 * a) (16 * d) l)).2.1 13 (16 * d + i) = y3.2.1 13 (16 * a + i) := by
                  intro i hi
                  rw [usR_at, pk_cpy_in (by omega) (by omega), show 16 * d + i - 16 * d = i by omega]
                have f1 : fr (fun g => g = 13) y3 (usR y3 13 (va_cpy (y3.2.1 13) (y3.2.1 13) (16 * a) (16 * d) l)) := fr_R2 fr_rf rfl
                generalize usR y3 13 (va_cpy (y3.2.1 13) (y3.2.1 13) (16 * a) (16 * d) l) = z1 at k4 k3 k3' f1
                refine w_crI ch_14 rfl ha20 ((congrFun k4 a).trans e14) (w_crI ch_14 rfl hb20 ((congrFun k4 b).trans e14') ?_)
                rw [nI_add]
                refine cpb z1 (16 * b) (16 * d + l) l' (by omega) (by omega) (fun i hi => ?_) ?_
                · obtain ⟨q, q1, q2, q3⟩ := hw' i hi
                  rw [k3 _ (by omega), q1]
                  exact (lt_a (by omega)).2.1
                · have j4 : (usR z1 13 (va_cpy (z1.2.1 13) (z1.2.1 13) (16 * b) (16 * d + l) l')).2.1 14 = y3.2.1 14 := (usR_ot (by omega)).trans k4
                  have j5 : (usR z1 13 (va_cpy (z1.2.1 13) (z1.2.1 13) (16 * b) (16 * d + l) l')).2.1 15 = y3.2.1 15 := (usR_ot (by omega)).trans (f1 15 (by omega)).2.1
                  have j3 : ∀ k, k < 16 * d ∨ 16 * d + 16 ≤ k → (usR z1 13 (va_cpy (z1.2.1 13) (z1.2.1 13) (16 * b) (16 * d + l) l')).2.1 13 k = y3.2.1 13 k := by
                    intro k hk
                    rw [usR_at, pk_cpy_out (by omega)]
                    exact k3 k hk
                  have jw : ∀ i, i < l + l' → ∃ q : Int, (usR z1 13 (va_cpy (z1.2.1 13) (z1.2.1 13) (16 * b) (16 * d + l) l')).2.1 13 (16 * d + i) = iI q ∧ 1 ≤ q.natAbs ∧ q.natAbs < n := by
                    intro i hi
                    rw [usR_at]
                    by_cases e : i < l
                    · obtain ⟨q, q1, q2, q3⟩ := hw i e
                      rw [pk_cpy_out (by omega), k3' i e]
                      exact ⟨q, q1, q2, q3⟩
                    · obtain ⟨q, q1, q2, q3⟩ := hw' (i - l) (by omega)
                      rw [pk_cpy_in (by omega) (by omega), show 16 * b + (16 * d + i - (16 * d + l)) = 16 * b + (i - l) by omega, k3 _ (by omega)]
                      exact ⟨q, q1, q2, by omega⟩
                  have jv : ∀ i, i < l + l' → (usR z1 13 (va_cpy (z1.2.1 13) (z1.2.1 13) (16 * b) (16 * d + l) l')).2.1 13 (16 * d + i) = wpr y3 13 a l b i := by
                    intro i hi
                    rw [usR_at]
                    unfold wpr
                    by_cases e : i < l
                    · rw [pk_cpy_out (by omega), k3' i e, if_pos e]
                    · rw [pk_cpy_in (by omega) (by omega), show 16 * b + (16 * d + i - (16 * d + l)) = 16 * b + (i - l) by omega, k3 _ (by omega), if_neg e]
                  have f2 : fr (fun g => g = 13) y3 (usR z1 13 (va_cpy (z1.2.1 13) (z1.2.1 13) (16 * b) (16 * d + l) l')) := fr_R2 f1 rfl
                  generalize usR z1 13 (va_cpy (z1.2.1 13) (z1.2.1 13) (16 * b) (16 * d + l) l') = z2 at j4 j5 j3 jw jv f2
                  refine w_crI ch_14 rfl ha20 ((congrFun j4 a).trans e14) (w_crI ch_14 rfl hb20 ((congrFun j4 b).trans e14') ?_)
                  rw [nI_add]
                  refine w_ctI ch_14 rfl hd (w_crI ch_15 rfl ha20 (rd_ot (by omega) ((congrFun j5 a).trans e15)) (w_ctI ch_15 rfl hd (w_some (Or.inr ⟨a, n, l, b, n', l', ha20, rfl, hn2, hn5, e15, l16, e14, hb20, rfl, hn2', hn5', e15', l16', e14', Or.inr ⟨enn, Or.inr ⟨h16, Or.inr ⟨rfl, d, ⟨hd, e0, eall⟩, rfl, ?_, fr_I2 (fr_I2 (fr_mono (fun g hg => by rw [hg]; unfold bdQ; omega) f2) (by unfold bdQ; omega)) (by unfold bdQ; omega), po_usI_at, rd_ot (by omega) po_usI_at, fun j hj => rd_ot (by omega) (rd_ot (by omega) (jv j hj)), fun e he => ⟨rd_ne he (rd_ot (by omega) (congrFun j5 e)), rd_ot (by omega) (rd_ne he (congrFun j4 e)), fun j hj => rd_ot (by omega) (rd_ot (by omega) (j3 _ (by omega)))⟩⟩⟩⟩⟩))))
                  refine brC_put (n := n) (l := l + l') hd hB (fun k hk9 => rd_ot (by omega) (rd_ot (by omega) (j3 k hk9))) (fun k hk9 => rd_ot (by omega) (rd_ne hk9 (congrFun j4 k))) (fun k hk9 => rd_ne hk9 (rd_ot (by omega) (congrFun j5 k))) ⟨hn5, by omega⟩ po_usI_at (fun _ => ⟨h16, rd_ot (by omega) po_usI_at, fun j hj => ?_⟩)
                  obtain ⟨q, a1, a2, a3⟩ := jw j hj
                  exact ⟨q, rd_ot (by omega) (rd_ot (by omega) a1), a2, a3⟩
            · exact absurd (show (0 : Nat) = 3 from h3.1) (by decide)
          · rintro q v y3 ha ⟨h3, rfl⟩
            rcases h3 with ⟨d, -, q9, -⟩ | h3
            · exact absurd q9 ha
            · exact w_some (Or.inr ⟨a, n, l, b, n', l', ha20, rfl, hn2, hn5, e15, l16, e14, hb20, rfl, hn2', hn5', e15', l16', e14', Or.inr ⟨enn, Or.inr ⟨h16, Or.inl ⟨h3.1, rfl, h3.2⟩⟩⟩⟩)
        · exact absurd (show (0 : Nat) = 1 from h2.1) (by decide)
      · rintro q y2 ha ⟨h2, rfl⟩
        rcases h2 with h2 | h2
        · exact absurd h2.1 ha
        · exact w_some (Or.inl ⟨h2.1, rfl, Or.inr h2.2⟩)
    · exact absurd (show (0 : Nat) = 1 from h1.1) (by decide)
  · rintro q y1 ha ⟨h1, rfl⟩
    rcases h1 with h1 | h1
    · exact absurd h1.1 ha
    · exact w_some (Or.inl ⟨h1.1, rfl, Or.inl h1.2⟩)
end XPC
