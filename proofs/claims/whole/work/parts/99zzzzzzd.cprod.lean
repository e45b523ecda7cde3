/-! the class: product, inverse -/
section CPI
variable {vl : Nat → Nat} {y : ow_MS} {x x' : Int32}
theorem m16 {d : Nat} : nI d * 16 = nI (16 * d) := by
  rw [show (16 : Int32) = nI 16 from rfl, pk_mul, Nat.mul_comm]
/-- a braid's place -/
theorem isB_w (hB : brC y) (h : isB y x) : ∃ b n l, b < 20 ∧ x = nI b ∧ 2 ≤ n ∧ n ≤ 5 ∧ y.2.1 15 b = nI n ∧ l ≤ 16 ∧ y.2.1 14 b = nI l ∧ wdB y b n l := by
  obtain ⟨b, n, h1, h2, h3, h4, h5⟩ := h
  obtain ⟨n', l, q1, q2, q3, q4⟩ := hB b h1
  have e : n = n' := nI_inj9 (by omega) (by omega) (h3.symm.trans q3)
  rw [← e] at q2 q4
  obtain ⟨r1, r2, r3⟩ := q4 (by omega)
  exact ⟨b, n, l, h1, h2, by omega, h5, h3, r1, r2, r3⟩
theorem e_X11_inverse {vl : Nat → Nat} {r0 : Nat} {x1 : Int32} {z : ow_MS} {Q : (Nat × Int32 × ow_MS) → Prop} (H : Tt (fun K k => c_X11_inverse vl K k 0 x1 0 0 0 r0 z) Q) : Te (fun K => ce_X11_inverse vl K r0 x1 z) Q := w_te H
theorem u_X11_inverse_0 {vl : Nat → Nat} {x1 : Int32} {x2 : Int32} {x3 : Int32} {x4 : Int32} {r0 : Nat} {z : ow_MS} {Q : (Nat × Int32 × ow_MS) → Prop} (H : Tt (fun K k => cm_X11_inverse_0 vl K (c_X11_inverse vl K k) x1 x2 x3 x4 r0 z) Q) : Tt (fun K k => c_X11_inverse vl K k 0 x1 x2 x3 x4 r0 z) Q := w_un (fun _ _ => rfl) H
theorem u_X11_inverse_1 {vl : Nat → Nat} {x1 : Int32} {x2 : Int32} {x3 : Int32} {x4 : Int32} {r0 : Nat} {z : ow_MS} {Q : (Nat × Int32 × ow_MS) → Prop} (H : Tt (fun K k => cm_X11_inverse_1 vl K (c_X11_inverse vl K k) x1 x2 x3 x4 r0 z) Q) : Tt (fun K k => c_X11_inverse vl K k 1 x1 x2 x3 x4 r0 z) Q := w_un (fun _ _ => rfl) H
theorem tc_inverse (hB : brC y) : Te (fun K => ce_X11_inverse vl K 0 x y) (fun r => brC r.2.2 ∧ fr bdP y r.2.2) := by
  let Q0 : ow_MS → Nat × Int32 × ow_MS → Prop := fun y r => brC r.2.2 ∧ fr bdP y r.2.2
  refine e_X11_inverse ?_
  refine u_X11_inverse_0 ?_; unfold cm_X11_inverse_0
  refine w_tc0 (tc_needBraid (brC_E hB)) ?_ ?_
  · rintro y1 ⟨h1, rfl⟩
    rcases h1 with ⟨-, hb⟩ | h1
    · obtain ⟨b, n, l, hb20, rfl, hn2, hn5, e15, l16, e14, hw⟩ := isB_w hB hb
      refine w_tc1 tc_freeBraid ?_ ?_
      · rintro v y2 ⟨h2, rfl⟩
        rcases h2 with ⟨d, hd, -, rfl, e0, -⟩ | h2
        · have hbd : b ≠ d := fun e => by
            rw [e, e0] at e15
            have := nI_inj9 (a := 0) (b := n) (by omega) (by omega) e15
            omega
          have c1 : ∀ (k i : Nat) (z : ow_MS), i + k = l → fr (fun g => g = 13) y2 z → (∀ k, k < 16 * d ∨ 16 * d + 16 ≤ k → z.2.1 13 k = y2.2.1 13 k) → wdB z d n i → Tt (fun K t => c_X11_inverse vl K t 1 (nI b) (nI d) (nI l) (nI i) 0 z) (Q0 y2) := by
            intro k
            induction k with
            | zero =>
              intro i z hi hf hk hwi
              have e : i = l := by omega
              subst e
              have z4 : z.2.1 14 = y2.2.1 14 := (hf 14 (by omega)).2.1
              have z5 : z.2.1 15 = y2.2.1 15 := (hf 15 (by omega)).2.1
              refine u_X11_inverse_1 ?_; unfold cm_X11_inverse_1
              refine w_leT (by omega) (by omega) (w_ctI ch_14 rfl hd (w_crI ch_15 rfl hb20 (rd_ot (by omega) ((congrFun z5 b).trans e15)) (w_ctI ch_15 rfl hd (w_some ⟨?_, fr_I2 (fr_I2 (fr_mono (fun g hg => by rw [hg]; unfold bdP; omega) hf) (by unfold bdP; omega)) (by unfold bdP; omega)⟩))))
              refine brC_put (n := n) (l := i) hd hB (fun k hk9 => rd_ot (by omega) (rd_ot (by omega) (hk k hk9))) (fun k hk9 => rd_ot (by omega) (rd_ne hk9 (congrFun z4 k))) (fun k hk9 => rd_ne hk9 (rd_ot (by omega) (congrFun z5 k))) ⟨hn5, by omega⟩ po_usI_at (fun _ => ⟨l16, rd_ot (by omega) po_usI_at, fun j hj => ?_⟩)
              obtain ⟨a, a1, a2, a3⟩ := hwi j hj
              exact ⟨a, rd_ot (by omega) (rd_ot (by omega) a1), a2, a3⟩
            | succ k ih =>
              intro i z hi hf hk hwi
              obtain ⟨a, a1, a2, a3⟩ := hw (l - 1 - i) (by omega)
              have ea : z.2.1 13 (16 * b + l - 1 - i) = iI a := by
                rw [hk _ (by omega), show 16 * b + l - 1 - i = 16 * b + (l - 1 - i) by omega]
                exact a1
              refine u_X11_inverse_1 ?_; unfold cm_X11_inverse_1
              rw [m16, m16, nI_add, show nI (16 * b + l) - 1 = nI (16 * b + l - 1) from pk_sub (b := 1) (by omega), show nI (16 * b + l - 1) - nI i = nI (16 * b + l - 1 - i) from pk_sub (by omega), nI_add]
              refine w_leF (by omega) (by omega) (w_crI ch_13 rfl (show 16 * b + l - 1 - i < 320 by omega) ea (w_ctB ch_13 rfl (show 16 * d + i < 320 by omega) ?_))
              rw [(lt_a (a := a) (by omega)).2.2, (lt_a (a := -a) (by omega)).1, nI_1]
              refine ih (i + 1) _ (by omega) (fr_I2 hf rfl) (fun j hj => rd_ne (by omega) (hk j hj)) (fun j hj => ?_)
              by_cases e : j = i
              · rw [e]
                exact ⟨-a, po_usI_at, by omega, by omega⟩
              · obtain ⟨a', q1, q2, q3⟩ := hwi j (by omega)
                exact ⟨a', rd_ne (by omega) q1, q2, q3⟩
          exact w_crI ch_14 rfl hb20 e14 (c1 l 0 y2 (by omega) fr_rf (fun _ _ => rfl) (fun i hi => absurd hi (Nat.not_lt_zero _)))
        · exact absurd (show (0 : Nat) = 3 from h2.1) (by decide)
      · rintro a v y2 ha ⟨h2, rfl⟩
        exact w_some ⟨hB, fr_rf⟩
    · exact absurd (show (0 : Nat) = 1 from h1.1) (by decide)
  · rintro a y1 ha ⟨h1, rfl⟩
    exact w_some ⟨hB, fr_rf⟩
theorem e_X11_product {vl : Nat → Nat} {r0 : Nat} {x1 : Int32} {x2 : Int32} {z : ow_MS} {Q : (Nat × Int32 × ow_MS) → Prop} (H : Tt (fun K _ => cm_X11_product_0 vl K x1 x2 r0 z) Q) : Te (fun K => ce_X11_product vl K r0 x1 x2 z) Q := w_te0 H
theorem tc_product (hB : brC y) : Te (fun K => ce_X11_product vl K 0 x x' y) (fun r => brC r.2.2 ∧ fr bdP y r.2.2) := by
  refine e_X11_product ?_; unfold cm_X11_product_0
  refine w_tc0 (tc_needBraid (brC_E hB)) ?_ ?_
  · rintro y1 ⟨h1, rfl⟩
    rcases h1 with ⟨-, hb⟩ | h1
    · obtain ⟨a, n, l, ha20, rfl, hn2, hn5, e15, l16, e14, hw⟩ := isB_w hB hb
      refine w_tc0 (tc_needBraid (brC_E hB)) ?_ ?_
      · rintro y2 ⟨h2, rfl⟩
        rcases h2 with ⟨-, hb'⟩ | h2
        · obtain ⟨b, n', l', hb20, rfl, hn2', hn5', e15', l16', e14', hw'⟩ := isB_w hB hb'
          refine w_crI ch_15 rfl ha20 e15 (w_crI ch_15 rfl hb20 e15' (w_eqN (by omega) (by omega) (fun enn => w_crI ch_14 rfl ha20 e14 (w_crI ch_14 rfl hb20 e14' ?_)) (fun _ => w_some ⟨hB, fr_rf⟩)))
          rw [nI_add]
          refine w_le (b := 16) (by omega) (by omega) (fun h16 => ?_) (fun _ => w_some ⟨hB, fr_rf⟩)
          refine w_tc1 tc_freeBraid ?_ ?_
          · rintro v y3 ⟨h3, rfl⟩
            rcases h3 with ⟨d, hd, -, rfl, e0, -⟩ | h3
            · have had : a ≠ d := fun e => by
                rw [e, e0] at e15
                have := nI_inj9 (a := 0) (b := n) (by omega) (by omega) e15
                omega
              have hbd : b ≠ d := fun e => by
                rw [e, e0] at e15'
                have := nI_inj9 (a := 0) (b := n') (by omega) (by omega) e15'
                omega
              rw [m16, m16, m16]
              refine w_crI ch_14 rfl ha20 e14 ?_
              have cpb : ∀ {E : ow_MS → Nat → Nat → Option (Nat × Int32 × ow_MS)} {Q : Nat × Int32 × ow_MS → Prop} (z : ow_MS) (s t m : Nat), s + m ≤ 320 → t + m ≤ 320 → (∀ i, i < m → fits .byte (.int (z.2.1 13 (s + i))) = true) → Tt (E (usR z 13 (va_cpy (z.2.1 13) (z.2.1 13) s t m))) Q → Tt (fun K k => cpB (cX vl) z 13 (nI s) 13 (nI t) (nI m) (fun v => E v K k)) Q := by
                intro E Q z s t m h1 h2 h3 H
                unfold cpB
                refine w_ifT (fun i hi => ?_) (w_cpI (a := s) (b := t) (n := m) ch_13 ch_13 rfl rfl rfl h1 h2 H)
                rw [nI_clamp (by omega)] at hi
                rw [nI_clamp (by omega)]
                exact h3 i hi
              refine cpb y3 (16 * a) (16 * d) l (by omega) (by omega) (fun i hi => ?_) ?_
              · obtain ⟨q, q1, q2, q3⟩ := hw i hi
                rw [q1]
                exact (lt_a (by omega)).2.1
              · have k4 : (usR y3 13 (va_cpy (y3.2.1 13) (y3.2.1 13) (16 * a) (16 * d) l)).2.1 14 = y3.2.1 14 := usR_ot (by omega)
                have k3 : ∀ k, k < 16 * d ∨ 16 * d + 16 ≤ k → (usR y3 13 (va_cpy (y3.2.1 13) (y3.2.1 13) (16 * a) (16 * d) l)).2.1 13 k = y3.2.1 13 k := by
                  intro k hk
                  rw [usR_at]
                  exact pk_cpy_out (by omega)
                have k3' : ∀ i, i < l → (usR y3 13 (va_cpy (y3.2.1 13) (y3.2.1 13) (16 * a) (16 * d) l)).2.1 13 (16 * d + i) = y3.2.1 13 (16 * a + i) := by
                  intro i hi
                  rw [usR_at, pk_cpy_in (by omega) (by omega), show 16 * d + i - 16 * d = i by omega]
                have f1 : fr (fun g => g = 13) y3 (usR y3 13 (va_cpy (y3.2.1 13) (y3.2.1 13) (16 * a) (16 * d) l)) := fr_R2 fr_rf rfl
                generalize usR y3 13 (va_cpy (y3.2.1 13) (y3.2.1 13) (16 * a) (16 * d) l) = z1 at k4 k3 k3' f1
                refine w_crI ch_14 rfl ha20 ((congrFun k4 a).trans e14) (w_crI ch_14 rfl hb20 ((congrFun k4 b).trans e14') ?_)
                rw [nI_add]
                refine cpb z1 (16 * b) (16 * d + l) l' (by omega) (by omega) (fun i hi => ?_) ?_
                · obtain ⟨q, q1, q2, q3⟩ := hw' i hi
                  rw [k3 _ (by omega), q1]
                  exact (lt_a (by omega)).2.1
                · have j4 : (usR z1 13 (va_cpy (z1.2.1 13) (z1.2.1 13) (16 * b) (16 * d + l) l')).2.1 14 = y3.2.1 14 := (usR_ot (by omega)).trans k4
                  have j5 : (usR z1 13 (va_cpy (z1.2.1 13) (z1.2.1 13) (16 * b) (16 * d + l) l')).2.1 15 = y3.2.1 15 := (usR_ot (by omega)).trans (f1 15 (by omega)).2.1
                  have j3 : ∀ k, k < 16 * d ∨ 16 * d + 16 ≤ k → (usR z1 13 (va_cpy (z1.2.1 13) (z1.2.1 13) (16 * b) (16 * d + l) l')).2.1 13 k = y3.2.1 13 k := by
                    intro k hk
                    rw [usR_at, pk_cpy_out (by omega)]
                    exact k3 k hk
                  have jw : ∀ i, i < l + l' → ∃ q : Int, (usR z1 13 (va_cpy (z1.2.1 13) (z1.2.1 13) (16 * b) (16 * d + l) l')).2.1 13 (16 * d + i) = iI q ∧ 1 ≤ q.natAbs ∧ q.natAbs < n := by
                    intro i hi
                    rw [usR_at]
                    by_cases e : i < l
                    · obtain ⟨q, q1, q2, q3⟩ := hw i e
                      rw [pk_cpy_out (by omega), k3' i e]
                      exact ⟨q, q1, q2, q3⟩
                    · obtain ⟨q, q1, q2, q3⟩ := hw' (i - l) (by omega)
                      rw [pk_cpy_in (by omega) (by omega), show 16 * b + (16 * d + i - (16 * d + l)) = 16 * b + (i - l) by omega, k3 _ (by omega)]
                      exact ⟨q, q1, q2, by omega⟩
                  have f2 : fr (fun g => g = 13) y3 (usR z1 13 (va_cpy (z1.2.1 13) (z1.2.1 13) (16 * b) (16 * d + l) l')) := fr_R2 f1 rfl
                  generalize usR z1 13 (va_cpy (z1.2.1 13) (z1.2.1 13) (16 * b) (16 * d + l) l') = z2 at j4 j5 j3 jw f2
                  refine w_crI ch_14 rfl ha20 ((congrFun j4 a).trans e14) (w_crI ch_14 rfl hb20 ((congrFun j4 b).trans e14') ?_)
                  rw [nI_add]
                  refine w_ctI ch_14 rfl hd (w_crI ch_15 rfl ha20 (rd_ot (by omega) ((congrFun j5 a).trans e15)) (w_ctI ch_15 rfl hd (w_some ⟨?_, fr_I2 (fr_I2 (fr_mono (fun g hg => by rw [hg]; unfold bdP; omega) f2) (by unfold bdP; omega)) (by unfold bdP; omega)⟩)))
                  refine brC_put (n := n) (l := l + l') hd hB (fun k hk9 => rd_ot (by omega) (rd_ot (by omega) (j3 k hk9))) (fun k hk9 => rd_ot (by omega) (rd_ne hk9 (congrFun j4 k))) (fun k hk9 => rd_ne hk9 (rd_ot (by omega) (congrFun j5 k))) ⟨hn5, by omega⟩ po_usI_at (fun _ => ⟨h16, rd_ot (by omega) po_usI_at, fun j hj => ?_⟩)
                  obtain ⟨q, a1, a2, a3⟩ := jw j hj
                  exact ⟨q, rd_ot (by omega) (rd_ot (by omega) a1), a2, a3⟩
            · exact absurd (show (0 : Nat) = 3 from h3.1) (by decide)
          · rintro q v y3 ha ⟨h3, rfl⟩
            exact w_some ⟨hB, fr_rf⟩
        · exact absurd (show (0 : Nat) = 1 from h2.1) (by decide)
      · rintro q y2 ha ⟨h2, rfl⟩
        exact w_some ⟨hB, fr_rf⟩
    · exact absurd (show (0 : Nat) = 1 from h1.1) (by decide)
  · rintro q y1 ha ⟨h1, rfl⟩
    exact w_some ⟨hB, fr_rf⟩
end CPI
