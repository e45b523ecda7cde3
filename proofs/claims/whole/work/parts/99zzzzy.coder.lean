/-! the class: Coder, the first cells -/
section CK
variable {vl : Nat → Nat} {y : ow_MS} {h : Nat} {T : ow_NT}
theorem an1_c : ∀ v : Fin 24, (nI v.val &&& 1) = nI (v.val % 2) := by decide +kernel
theorem e_X2_firstCell {vl : Nat → Nat} {r0 : Nat} {x1 : Int32} {z : ow_MS} {Q : (Int32 × ow_MS) → Prop} (H : Tt (fun K _ => cm_X2_firstCell_0 vl K x1 r0 z) Q) : Te (fun K => ce_X2_firstCell vl K r0 x1 z) Q := w_te0 H
theorem tc_firstCell {v : Nat} (hh : nH h) (hy : cAt y h T) (hv : v < 24) : Te (fun K => ce_X2_firstCell vl K h (nI v) y) (fun r => r.1 = nI (cd_first T.2.2.2 v) ∧ r.2 = y) := by
  refine e_X2_firstCell ?_; unfold cm_X2_firstCell_0
  rw [shr1v ⟨v, hv⟩, an1_c ⟨v, hv⟩, show (2 : Int32) * nI (v % 2) = nI (2 * (v % 2)) from pk_mul 2 _, show (4 : Int32) + nI (2 * (v % 2)) = nI (4 + 2 * (v % 2)) from nI_add 4 _]
  refine w_crI (nH_3 hh) rfl (by omega) (hy.2.2.2.2 _) (w_if (fun e => w_some ⟨?_, rfl⟩) (fun e => w_some ⟨?_, rfl⟩))
  · show nI (4 + 2 * (v % 2)) + 0 = nI (4 + 2 * (v % 2) + (if T.2.2.2 (v / 2) < 0 then 1 else 0))
    rw [if_neg (Int32.not_lt.mpr e)]
    exact nI_add _ 0
  · show nI (4 + 2 * (v % 2)) + 1 = nI (4 + 2 * (v % 2) + (if T.2.2.2 (v / 2) < 0 then 1 else 0))
    rw [if_pos (Int32.not_le.mp e), nI_1]
theorem first_b {G : Nat → Int32} {v : Nat} : 4 ≤ cd_first G v ∧ cd_first G v ≤ 7 := by
  unfold cd_first
  split <;> omega
/-- the least first cell of the visits below n with mark p -/
def lfc (G P : Nat → Int32) (p : Int32) : Nat → Nat
  | 0 => 8
  | v + 1 => if P v = p then (if cd_first G v < lfc G P p v then cd_first G v else lfc G P p v) else lfc G P p v
theorem lfc_b {G P : Nat → Int32} {p : Int32} : ∀ n, lfc G P p n ≤ 8
  | 0 => Nat.le_refl _
  | v + 1 => by
    have := lfc_b (G := G) (P := P) (p := p) v
    have := first_b (G := G) (v := v)
    show (if P v = p then (if cd_first G v < lfc G P p v then cd_first G v else lfc G P p v) else lfc G P p v) ≤ 8
    split
    · split <;> omega
    · omega
theorem u_X2_leastFirstCell_1 {vl : Nat → Nat} {x1 : Int32} {x2 : Int32} {x3 : Int32} {r0 : Nat} {z : ow_MS} {Q : (Int32 × ow_MS) → Prop} (H : Tt (fun K k => cm_X2_leastFirstCell_1 vl K (c_X2_leastFirstCell vl K k) x1 x2 x3 r0 z) Q) : Tt (fun K k => c_X2_leastFirstCell vl K k 1 x1 x2 x3 r0 z) Q := w_un (fun _ _ => rfl) H
theorem u_X2_leastFirstCell_2 {vl : Nat → Nat} {x1 : Int32} {x2 : Int32} {x3 : Int32} {r0 : Nat} {z : ow_MS} {Q : (Int32 × ow_MS) → Prop} (H : Tt (fun K k => cm_X2_leastFirstCell_2 vl K (c_X2_leastFirstCell vl K k) x1 x2 x3 r0 z) Q) : Tt (fun K k => c_X2_leastFirstCell vl K k 2 x1 x2 x3 r0 z) Q := w_un (fun _ _ => rfl) H
theorem e_X2_leastFirstCell {vl : Nat → Nat} {r0 : Nat} {x1 : Int32} {z : ow_MS} {Q : (Int32 × ow_MS) → Prop} (H : Tt (fun K k => c_X2_leastFirstCell vl K k 0 x1 0 0 r0 z) Q) : Te (fun K => ce_X2_leastFirstCell vl K r0 x1 z) Q := w_te H
theorem u_X2_leastFirstCell_0 {vl : Nat → Nat} {x1 : Int32} {x2 : Int32} {x3 : Int32} {r0 : Nat} {z : ow_MS} {Q : (Int32 × ow_MS) → Prop} (H : Tt (fun K k => cm_X2_leastFirstCell_0 vl K (c_X2_leastFirstCell vl K k) x1 x2 x3 r0 z) Q) : Tt (fun K k => c_X2_leastFirstCell vl K k 0 x1 x2 x3 r0 z) Q := w_un (fun _ _ => rfl) H
theorem tc_leastFirstCell {p : Int32} {P : Nat → Int32} (hh : nH h) (hy : cAt y h T) (hT : T.1 ≤ 12) (h6 : ∀ k, k < 2 * T.1 → y.2.1 (h + 6) k = P k) : Te (fun K => ce_X2_leastFirstCell vl K h p y) (fun r => r.1 = nI (lfc T.2.2.2 P p (2 * T.1)) ∧ r.2 = y) := by
  let Q : Int32 × ow_MS → Prop := fun r => r.1 = nI (lfc T.2.2.2 P p (2 * T.1)) ∧ r.2 = y
  have c1 : ∀ (d v : Nat), v + d = 2 * T.1 → Tt (fun K t => c_X2_leastFirstCell vl K t 1 p (nI (lfc T.2.2.2 P p v)) (nI v) h y) Q := by
    intro d
    induction d with
    | zero =>
      intro v hv
      have e : v = 2 * T.1 := by omega
      subst e
      refine u_X2_leastFirstCell_1 ?_; unfold cm_X2_leastFirstCell_1
      refine w_rdF hy.1 ?_
      rw [show (2 : Int32) * nI T.1 = nI (2 * T.1) from pk_mul 2 _]
      exact w_leT (by omega) (by omega) (w_some ⟨rfl, rfl⟩)
    | succ d ih =>
      intro v hv
      have b1 := lfc_b (G := T.2.2.2) (P := P) (p := p) v
      have b2 := first_b (G := T.2.2.2) (v := v)
      have k2 : ∀ x2 : Int32, x2 = nI (lfc T.2.2.2 P p (v + 1)) → Tt (fun K t => c_X2_leastFirstCell vl K t 2 p x2 (nI v) h y) Q := by
        intro x2 e
        subst e
        refine u_X2_leastFirstCell_2 ?_; unfold cm_X2_leastFirstCell_2
        rw [nI_1]
        exact ih (v + 1) (by omega)
      have eo : lfc T.2.2.2 P p (v + 1) = if P v = p then (if cd_first T.2.2.2 v < lfc T.2.2.2 P p v then cd_first T.2.2.2 v else lfc T.2.2.2 P p v) else lfc T.2.2.2 P p v := rfl
      refine u_X2_leastFirstCell_1 ?_; unfold cm_X2_leastFirstCell_1
      refine w_rdF hy.1 ?_
      rw [show (2 : Int32) * nI T.1 = nI (2 * T.1) from pk_mul 2 _]
      refine w_leF (by omega) (by omega) (w_crI (nH_6 hh) rfl (by omega) (h6 v (by omega)) (w_if (fun e => ?_) (fun e => ?_)))
      · refine w_cs1 (tc_firstCell hh hy (show v < 24 by omega)) ?_
        rintro r y1 ⟨e1, e2⟩
        dsimp only at e1 e2
        subst e1
        subst e2
        refine k2 _ ?_
        rw [eo, if_pos e]
        by_cases h9 : cd_first T.2.2.2 v < lfc T.2.2.2 P p v
        · rw [if_pos h9, if_pos (nI_lt h9 (by omega))]
        · rw [if_neg h9, if_neg (nI_nlt (by omega) (by omega))]
      · refine k2 _ ?_
        rw [eo, if_neg e]
  refine e_X2_leastFirstCell ?_
  refine u_X2_leastFirstCell_0 ?_; unfold cm_X2_leastFirstCell_0
  exact c1 (2 * T.1) 0 (by omega)
end CK
