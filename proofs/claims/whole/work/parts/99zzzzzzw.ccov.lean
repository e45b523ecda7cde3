/-! the class: cover and colours have an answer -/
def acR (g : Nat) : Prop := 42001 ≤ g ∧ g ≤ 42012
theorem ch_mat {vl : Nat → Nat} {j : Nat} (hj : j < 12) : ((cX vl).2 (41000 + 1001 + j)).2.1 = 18 := by
  have key : ∀ j, j < 12 → dynL.contains (41000 + 1001 + j) = false ∧ (cX_f (41000 + 1001 + j)).2.1 = 18 := by decide +kernel
  obtain ⟨k1, k2⟩ := key j hj
  show (if dynL.contains (41000 + 1001 + j) = true then (0, vl (41000 + 1001 + j), []) else cX_f (41000 + 1001 + j)).2.1 = 18
  rw [if_neg (by rw [k1]; decide)]
  exact k2
theorem ch_41001 {vl : Nat → Nat} : ((cX vl).2 41001).2.1 = 24 := rfl
theorem ch_41004 {vl : Nat → Nat} : ((cX vl).2 41004).2.1 = 18 := rfl
section CCV
variable {vl : Nat → Nat} {y : ow_MS} {a c : Nat}
theorem acR_a {z : ow_MS} (h : y.1 41002 = nI a) (hf : fr acR y z) : z.1 41002 = nI a := (hf 41002 (by unfold acR; omega)).1.trans h
theorem u_X0_bringLeast_6 {vl : Nat → Nat} {x1 : Int32} {x2 : Int32} {x3 : Int32} {x4 : Int32} {x7 : Int32} {x8 : Int32} {w5 : Int64} {w9 : Int64} {r0 : Nat} {z : ow_MS} {Q : (Int32 × ow_MS) → Prop} (H : Tt (fun K k => cm_X0_bringLeast_6 vl K (c_X0_bringLeast vl K k) x1 x2 x3 x4 x7 x8 w5 w9 r0 z) Q) : Tt (fun K k => c_X0_bringLeast vl K k 6 x1 x2 x3 x4 x7 x8 w5 w9 r0 z) Q := w_un (fun _ _ => rfl) H
theorem u_X0_bringLeast_5 {vl : Nat → Nat} {x1 : Int32} {x2 : Int32} {x3 : Int32} {x4 : Int32} {x7 : Int32} {x8 : Int32} {w5 : Int64} {w9 : Int64} {r0 : Nat} {z : ow_MS} {Q : (Int32 × ow_MS) → Prop} (H : Tt (fun K k => cm_X0_bringLeast_5 vl K (c_X0_bringLeast vl K k) x1 x2 x3 x4 x7 x8 w5 w9 r0 z) Q) : Tt (fun K k => c_X0_bringLeast vl K k 5 x1 x2 x3 x4 x7 x8 w5 w9 r0 z) Q := w_un (fun _ _ => rfl) H
theorem u_X0_bringLeast_1 {vl : Nat → Nat} {x1 : Int32} {x2 : Int32} {x3 : Int32} {x4 : Int32} {x7 : Int32} {x8 : Int32} {w5 : Int64} {w9 : Int64} {r0 : Nat} {z : ow_MS} {Q : (Int32 × ow_MS) → Prop} (H : Tt (fun K k => cm_X0_bringLeast_1 vl K (c_X0_bringLeast vl K k) x1 x2 x3 x4 x7 x8 w5 w9 r0 z) Q) : Tt (fun K k => c_X0_bringLeast vl K k 1 x1 x2 x3 x4 x7 x8 w5 w9 r0 z) Q := w_un (fun _ _ => rfl) H
theorem u_X0_bringLeast_2 {vl : Nat → Nat} {x1 : Int32} {x2 : Int32} {x3 : Int32} {x4 : Int32} {x7 : Int32} {x8 : Int32} {w5 : Int64} {w9 : Int64} {r0 : Nat} {z : ow_MS} {Q : (Int32 × ow_MS) → Prop} (H : Tt (fun K k => cm_X0_bringLeast_2 vl K (c_X0_bringLeast vl K k) x1 x2 x3 x4 x7 x8 w5 w9 r0 z) Q) : Tt (fun K k => c_X0_bringLeast vl K k 2 x1 x2 x3 x4 x7 x8 w5 w9 r0 z) Q := w_un (fun _ _ => rfl) H
theorem u_X0_bringLeast_4 {vl : Nat → Nat} {x1 : Int32} {x2 : Int32} {x3 : Int32} {x4 : Int32} {x7 : Int32} {x8 : Int32} {w5 : Int64} {w9 : Int64} {r0 : Nat} {z : ow_MS} {Q : (Int32 × ow_MS) → Prop} (H : Tt (fun K k => cm_X0_bringLeast_4 vl K (c_X0_bringLeast vl K k) x1 x2 x3 x4 x7 x8 w5 w9 r0 z) Q) : Tt (fun K k => c_X0_bringLeast vl K k 4 x1 x2 x3 x4 x7 x8 w5 w9 r0 z) Q := w_un (fun _ _ => rfl) H
theorem u_X0_bringLeast_3 {vl : Nat → Nat} {x1 : Int32} {x2 : Int32} {x3 : Int32} {x4 : Int32} {x7 : Int32} {x8 : Int32} {w5 : Int64} {w9 : Int64} {r0 : Nat} {z : ow_MS} {Q : (Int32 × ow_MS) → Prop} (H : Tt (fun K k => cm_X0_bringLeast_3 vl K (c_X0_bringLeast vl K k) x1 x2 x3 x4 x7 x8 w5 w9 r0 z) Q) : Tt (fun K k => c_X0_bringLeast vl K k 3 x1 x2 x3 x4 x7 x8 w5 w9 r0 z) Q := w_un (fun _ _ => rfl) H
theorem e_X0_bringLeast {vl : Nat → Nat} {r0 : Nat} {x1 : Int32} {x2 : Int32} {z : ow_MS} {Q : (Int32 × ow_MS) → Prop} (H : Tt (fun K k => c_X0_bringLeast vl K k 0 x1 x2 0 0 0 0 0 0 r0 z) Q) : Te (fun K => ce_X0_bringLeast vl K r0 x1 x2 z) Q := w_te H
theorem u_X0_bringLeast_0 {vl : Nat → Nat} {x1 : Int32} {x2 : Int32} {x3 : Int32} {x4 : Int32} {x7 : Int32} {x8 : Int32} {w5 : Int64} {w9 : Int64} {r0 : Nat} {z : ow_MS} {Q : (Int32 × ow_MS) → Prop} (H : Tt (fun K k => cm_X0_bringLeast_0 vl K (c_X0_bringLeast vl K k) x1 x2 x3 x4 x7 x8 w5 w9 r0 z) Q) : Tt (fun K k => c_X0_bringLeast vl K k 0 x1 x2 x3 x4 x7 x8 w5 w9 r0 z) Q := w_un (fun _ _ => rfl) H
theorem tc_bring {t : Nat} (hc : c ≤ 12) (ha : y.1 41002 = nI a) (a18 : a ≤ 18) (htc : t < c) (hta : t < a) : Te (fun K => ce_X0_bringLeast vl K 41000 (nI t) (nI c) y) (fun r => (r.1 = 0 ∨ r.1 = 1) ∧ fr acR y r.2) := by
  let Q : Int32 × ow_MS → Prop := fun r => (r.1 = 0 ∨ r.1 = 1) ∧ fr acR y r.2
  have c6 : ∀ (i : Nat) (d x : Nat) (x3 : Int32) (w5 : Int64) (z : ow_MS), x + d = c → i < a → fr acR y z → Tt (fun K k => c_X0_bringLeast vl K k 6 (nI t) (nI c) x3 (nI i) (nI x) 0 w5 0 41000 z) Q := by
    intro i d
    induction d with
    | zero =>
      intro x x3 w5 z hx hi hf
      refine u_X0_bringLeast_6 ?_; unfold cm_X0_bringLeast_6
      exact w_leT (by omega) (by omega) (w_okZ (Or.inr rfl) (w_some ⟨Or.inr rfl, hf⟩))
    | succ d ih =>
      intro x x3 w5 z hx hi hf
      refine u_X0_bringLeast_6 ?_; unfold cm_X0_bringLeast_6
      refine w_leF (by omega) (by omega) (w_crX rfl (show x < 12 by omega) (w_crJ (ch_mat (show x < 12 by omega)) rfl (show t < 18 by omega) rfl (w_crX rfl (show x < 12 by omega) (w_crX rfl (show x < 12 by omega) (w_crJ (ch_mat (show x < 12 by omega)) rfl (show i < 18 by omega) rfl (w_ctJ (ch_mat (show x < 12 by omega)) rfl (show t < 18 by omega) (w_crX rfl (show x < 12 by omega) (w_ctJ (ch_mat (show x < 12 by omega)) rfl (show i < 18 by omega) ?_))))))))
      rw [nI_1]
      exact ih (x + 1) x3 w5 _ (by omega) hi (fr_J2 (fr_J2 hf (by unfold acR; omega)) (by unfold acR; omega))
  have c5 : ∀ (r i : Nat) (d x : Nat) (w5 : Int64) (z : ow_MS), x + d = a → r < c → i < a → fr acR y z → Tt (fun K k => c_X0_bringLeast vl K k 5 (nI t) (nI c) (nI r) (nI i) (nI x) 0 w5 0 41000 z) Q := by
    intro r i d
    induction d with
    | zero =>
      intro x w5 z hx hr hi hf
      refine u_X0_bringLeast_5 ?_; unfold cm_X0_bringLeast_5
      exact w_rdF (acR_a ha hf) (w_leT (by omega) (by omega) (c6 i c 0 _ w5 z (by omega) hi hf))
    | succ d ih =>
      intro x w5 z hx hr hi hf
      refine u_X0_bringLeast_5 ?_; unfold cm_X0_bringLeast_5
      refine w_rdF (acR_a ha hf) (w_leF (by omega) (by omega) (w_crX rfl (show t < 12 by omega) (w_crJ (ch_mat (show t < 12 by omega)) rfl (show x < 18 by omega) rfl (w_crX rfl (show t < 12 by omega) (w_crX rfl (show r < 12 by omega) (w_crJ (ch_mat (show r < 12 by omega)) rfl (show x < 18 by omega) rfl (w_ctJ (ch_mat (show t < 12 by omega)) rfl (show x < 18 by omega) (w_crX rfl (show r < 12 by omega) (w_ctJ (ch_mat (show r < 12 by omega)) rfl (show x < 18 by omega) ?_)))))))))
      rw [nI_1]
      exact ih (x + 1) w5 _ (by omega) hr hi (fr_J2 (fr_J2 hf (by unfold acR; omega)) (by unfold acR; omega))
  have c1 : ∀ (d r : Nat) (x3 x4 : Int32) (w5 : Int64), r + d = c → t ≤ r → (x3 = -1 ∨ ∃ r' i', r' < c ∧ i' < a ∧ x3 = nI r' ∧ x4 = nI i') → Tt (fun K k => c_X0_bringLeast vl K k 1 (nI t) (nI c) x3 x4 (nI r) 0 w5 0 41000 y) Q := by
    intro d
    induction d with
    | zero =>
      intro r x3 x4 w5 hr htr h3
      refine u_X0_bringLeast_1 ?_; unfold cm_X0_bringLeast_1
      refine w_leT (by omega) (by omega) ?_
      rcases h3 with rfl | ⟨r', i', h1, h2, rfl, rfl⟩
      · exact w_ifT rfl (w_okZ (Or.inl rfl) (w_some ⟨Or.inl rfl, fr_rf⟩))
      · exact w_if (fun _ => w_okZ (Or.inl rfl) (w_some ⟨Or.inl rfl, fr_rf⟩)) (fun _ => c5 r' i' a 0 w5 y (by omega) h1 h2 fr_rf)
    | succ d ih =>
      intro r x3 x4 w5 hr htr h3
      have c2 : ∀ (e i : Nat) (x3 x4 : Int32) (w5 : Int64), i + e = a → (x3 = -1 ∨ ∃ r' i', r' < c ∧ i' < a ∧ x3 = nI r' ∧ x4 = nI i') → Tt (fun K k => c_X0_bringLeast vl K k 2 (nI t) (nI c) x3 x4 (nI r) (nI i) w5 0 41000 y) Q := by
        intro e
        induction e with
        | zero =>
          intro i x3 x4 w5 hi h3
          refine u_X0_bringLeast_2 ?_; unfold cm_X0_bringLeast_2
          rw [nI_1]
          exact w_rdF ha (w_leT (by omega) (by omega) (ih (r + 1) x3 x4 w5 (by omega) (by omega) h3))
        | succ e ihe =>
          intro i x3 x4 w5 hi h3
          have c4 : ∀ (x3 x4 : Int32) (w5 w9 : Int64), (x3 = -1 ∨ ∃ r' i', r' < c ∧ i' < a ∧ x3 = nI r' ∧ x4 = nI i') → Tt (fun K k => c_X0_bringLeast vl K k 4 (nI t) (nI c) x3 x4 (nI r) (nI i) w5 w9 41000 y) Q := by
            intro x3 x4 w5 w9 h3
            refine u_X0_bringLeast_4 ?_; unfold cm_X0_bringLeast_4
            rw [nI_1]
            exact ihe (i + 1) x3 x4 w5 (by omega) h3
          have c3 : ∀ (x3 x4 : Int32) (w5 w9 : Int64), Tt (fun K k => c_X0_bringLeast vl K k 3 (nI t) (nI c) x3 x4 (nI r) (nI i) w5 w9 41000 y) Q := by
            intro x3 x4 w5 w9
            refine u_X0_bringLeast_3 ?_; unfold cm_X0_bringLeast_3
            exact c4 _ _ _ _ (Or.inr ⟨r, i, by omega, by omega, rfl, rfl⟩)
          refine u_X0_bringLeast_2 ?_; unfold cm_X0_bringLeast_2
          exact w_rdF ha (w_leF (by omega) (by omega) (w_crX rfl (show r < 12 by omega) (w_crJ (ch_mat (show r < 12 by omega)) rfl (show i < 18 by omega) rfl (w_if (fun _ => c4 _ _ _ _ h3) (fun _ => w_if (fun _ => c3 _ _ _ _) (fun _ => w_if (fun _ => c4 _ _ _ _ h3) (fun _ => c3 _ _ _ _)))))))
      refine u_X0_bringLeast_1 ?_; unfold cm_X0_bringLeast_1
      exact w_leF (by omega) (by omega) (c2 (a - t) t x3 x4 w5 (by omega) h3)
  refine e_X0_bringLeast ?_
  refine u_X0_bringLeast_0 ?_; unfold cm_X0_bringLeast_0
  exact c1 (c - t) t (-1) (-1) 0 (by omega) (by omega) (Or.inl rfl)
theorem and01 {a b : Int32} (ha : a = 0 ∨ a = 1) (hb : b = 0 ∨ b = 1) : (a &&& b) = 0 ∨ (a &&& b) = 1 := by
  rcases ha with rfl | rfl <;> rcases hb with rfl | rfl <;> decide
theorem lgc0 {x : Int64} (h : ¬ lg_cmp x 0 = 0) : x ≠ 0 := fun e => h (by rw [e]; decide)
theorem u_X0_clearCross_5 {vl : Nat → Nat} {x1 : Int32} {x2 : Int32} {x5 : Int32} {x6 : Int32} {x9 : Int32} {w3 : Int64} {w7 : Int64} {r0 : Nat} {t0 : Int32} {t1 : Int32} {z : ow_MS} {Q : (Int32 × ow_MS) → Prop} (H : Tt (fun K k => cm_X0_clearCross_5 vl K (c_X0_clearCross vl K k) x1 x2 x5 x6 x9 w3 w7 r0 t0 t1 z) Q) : Tt (fun K k => c_X0_clearCross vl K k 5 x1 x2 x5 x6 x9 w3 w7 r0 t0 t1 z) Q := w_un (fun _ _ => rfl) H
theorem u_X0_clearCross_8 {vl : Nat → Nat} {x1 : Int32} {x2 : Int32} {x5 : Int32} {x6 : Int32} {x9 : Int32} {w3 : Int64} {w7 : Int64} {r0 : Nat} {t0 : Int32} {t1 : Int32} {z : ow_MS} {Q : (Int32 × ow_MS) → Prop} (H : Tt (fun K k => cm_X0_clearCross_8 vl K (c_X0_clearCross vl K k) x1 x2 x5 x6 x9 w3 w7 r0 t0 t1 z) Q) : Tt (fun K k => c_X0_clearCross vl K k 8 x1 x2 x5 x6 x9 w3 w7 r0 t0 t1 z) Q := w_un (fun _ _ => rfl) H
theorem u_X0_clearCross_7 {vl : Nat → Nat} {x1 : Int32} {x2 : Int32} {x5 : Int32} {x6 : Int32} {x9 : Int32} {w3 : Int64} {w7 : Int64} {r0 : Nat} {t0 : Int32} {t1 : Int32} {z : ow_MS} {Q : (Int32 × ow_MS) → Prop} (H : Tt (fun K k => cm_X0_clearCross_7 vl K (c_X0_clearCross vl K k) x1 x2 x5 x6 x9 w3 w7 r0 t0 t1 z) Q) : Tt (fun K k => c_X0_clearCross vl K k 7 x1 x2 x5 x6 x9 w3 w7 r0 t0 t1 z) Q := w_un (fun _ _ => rfl) H
theorem u_X0_clearCross_6 {vl : Nat → Nat} {x1 : Int32} {x2 : Int32} {x5 : Int32} {x6 : Int32} {x9 : Int32} {w3 : Int64} {w7 : Int64} {r0 : Nat} {t0 : Int32} {t1 : Int32} {z : ow_MS} {Q : (Int32 × ow_MS) → Prop} (H : Tt (fun K k => cm_X0_clearCross_6 vl K (c_X0_clearCross vl K k) x1 x2 x5 x6 x9 w3 w7 r0 t0 t1 z) Q) : Tt (fun K k => c_X0_clearCross vl K k 6 x1 x2 x5 x6 x9 w3 w7 r0 t0 t1 z) Q := w_un (fun _ _ => rfl) H
theorem u_X0_clearCross_1 {vl : Nat → Nat} {x1 : Int32} {x2 : Int32} {x5 : Int32} {x6 : Int32} {x9 : Int32} {w3 : Int64} {w7 : Int64} {r0 : Nat} {t0 : Int32} {t1 : Int32} {z : ow_MS} {Q : (Int32 × ow_MS) → Prop} (H : Tt (fun K k => cm_X0_clearCross_1 vl K (c_X0_clearCross vl K k) x1 x2 x5 x6 x9 w3 w7 r0 t0 t1 z) Q) : Tt (fun K k => c_X0_clearCross vl K k 1 x1 x2 x5 x6 x9 w3 w7 r0 t0 t1 z) Q := w_un (fun _ _ => rfl) H
theorem u_X0_clearCross_4 {vl : Nat → Nat} {x1 : Int32} {x2 : Int32} {x5 : Int32} {x6 : Int32} {x9 : Int32} {w3 : Int64} {w7 : Int64} {r0 : Nat} {t0 : Int32} {t1 : Int32} {z : ow_MS} {Q : (Int32 × ow_MS) → Prop} (H : Tt (fun K k => cm_X0_clearCross_4 vl K (c_X0_clearCross vl K k) x1 x2 x5 x6 x9 w3 w7 r0 t0 t1 z) Q) : Tt (fun K k => c_X0_clearCross vl K k 4 x1 x2 x5 x6 x9 w3 w7 r0 t0 t1 z) Q := w_un (fun _ _ => rfl) H
theorem u_X0_clearCross_3 {vl : Nat → Nat} {x1 : Int32} {x2 : Int32} {x5 : Int32} {x6 : Int32} {x9 : Int32} {w3 : Int64} {w7 : Int64} {r0 : Nat} {t0 : Int32} {t1 : Int32} {z : ow_MS} {Q : (Int32 × ow_MS) → Prop} (H : Tt (fun K k => cm_X0_clearCross_3 vl K (c_X0_clearCross vl K k) x1 x2 x5 x6 x9 w3 w7 r0 t0 t1 z) Q) : Tt (fun K k => c_X0_clearCross vl K k 3 x1 x2 x5 x6 x9 w3 w7 r0 t0 t1 z) Q := w_un (fun _ _ => rfl) H
theorem u_X0_clearCross_2 {vl : Nat → Nat} {x1 : Int32} {x2 : Int32} {x5 : Int32} {x6 : Int32} {x9 : Int32} {w3 : Int64} {w7 : Int64} {r0 : Nat} {t0 : Int32} {t1 : Int32} {z : ow_MS} {Q : (Int32 × ow_MS) → Prop} (H : Tt (fun K k => cm_X0_clearCross_2 vl K (c_X0_clearCross vl K k) x1 x2 x5 x6 x9 w3 w7 r0 t0 t1 z) Q) : Tt (fun K k => c_X0_clearCross vl K k 2 x1 x2 x5 x6 x9 w3 w7 r0 t0 t1 z) Q := w_un (fun _ _ => rfl) H
theorem e_X0_clearCross {vl : Nat → Nat} {r0 : Nat} {x1 : Int32} {x2 : Int32} {z : ow_MS} {Q : (Int32 × ow_MS) → Prop} (H : Tt (fun K k => c_X0_clearCross vl K k 0 x1 x2 0 0 0 0 0 r0 0 0 z) Q) : Te (fun K => ce_X0_clearCross vl K r0 x1 x2 z) Q := w_te H
theorem u_X0_clearCross_0 {vl : Nat → Nat} {x1 : Int32} {x2 : Int32} {x5 : Int32} {x6 : Int32} {x9 : Int32} {w3 : Int64} {w7 : Int64} {r0 : Nat} {t0 : Int32} {t1 : Int32} {z : ow_MS} {Q : (Int32 × ow_MS) → Prop} (H : Tt (fun K k => cm_X0_clearCross_0 vl K (c_X0_clearCross vl K k) x1 x2 x5 x6 x9 w3 w7 r0 t0 t1 z) Q) : Tt (fun K k => c_X0_clearCross vl K k 0 x1 x2 x5 x6 x9 w3 w7 r0 t0 t1 z) Q := w_un (fun _ _ => rfl) H
theorem tc_clear {t : Nat} (hc : c ≤ 12) (ha : y.1 41002 = nI a) (a18 : a ≤ 18) (htc : t < c) (hta : t < a) : Te (fun K => ce_X0_clearCross vl K 41000 (nI t) (nI c) y) (fun r => (r.1 = 0 ∨ r.1 = 1) ∧ fr acR y r.2) := by
  let Q : Int32 × ow_MS → Prop := fun r => (r.1 = 0 ∨ r.1 = 1) ∧ fr acR y r.2
  have c5 : ∀ (w3 : Int64), w3 ≠ 0 → ∀ (d i : Nat) (x5 : Int32) (z : ow_MS), i + d = a → t < i → (x5 = 0 ∨ x5 = 1) → fr acR y z → Tt (fun K k => c_X0_clearCross vl K k 5 (nI t) (nI c) x5 (nI i) 0 w3 0 41000 0 0 z) Q := by
    intro w3 hw d
    induction d with
    | zero =>
      intro i x5 z hi hti h5 hf
      refine u_X0_clearCross_5 ?_; unfold cm_X0_clearCross_5
      exact w_rdF (acR_a ha hf) (w_leT (by omega) (by omega) (w_okZ h5 (w_some ⟨h5, hf⟩)))
    | succ d ih =>
      intro i x5 z hi hti h5 hf
      have c8 : ∀ (t0 : Int32) (x9 : Int32) (w7 : Int64) (z : ow_MS), (t0 = 0 ∨ t0 = 1) → fr acR y z → Tt (fun K k => c_X0_clearCross vl K k 8 (nI t) (nI c) x5 (nI i) x9 w3 w7 41000 t0 x5 z) Q := by
        intro t0 x9 w7 z h0 hf
        refine u_X0_clearCross_8 ?_; unfold cm_X0_clearCross_8
        rw [nI_1]
        exact ih (i + 1) _ z (by omega) (by omega) (and01 h5 h0) hf
      have c7 : ∀ (x9 : Int32) (w7 : Int64) (z : ow_MS), fr acR y z → Tt (fun K k => c_X0_clearCross vl K k 7 (nI t) (nI c) x5 (nI i) x9 w3 w7 41000 0 0 z) Q := by
        intro x9 w7 z hf
        refine u_X0_clearCross_7 ?_; unfold cm_X0_clearCross_7
        exact w_crX rfl (show t < 12 by omega) (w_crJ (ch_mat (show t < 12 by omega)) rfl (show i < 18 by omega) rfl (w_if (fun _ => c8 1 _ _ z (Or.inr rfl) hf) (fun _ => c8 0 _ _ z (Or.inl rfl) hf)))
      have c6 : ∀ (w7 : Int64) (e r : Nat) (z : ow_MS), r + e = c → fr acR y z → Tt (fun K k => c_X0_clearCross vl K k 6 (nI t) (nI c) x5 (nI i) (nI r) w3 w7 41000 0 0 z) Q := by
        intro w7 e
        induction e with
        | zero =>
          intro r z hr hf
          refine u_X0_clearCross_6 ?_; unfold cm_X0_clearCross_6
          exact w_leT (by omega) (by omega) (c7 _ _ z hf)
        | succ e ihe =>
          intro r z hr hf
          refine u_X0_clearCross_6 ?_; unfold cm_X0_clearCross_6
          refine w_leF (by omega) (by omega) (w_if (fun _ => c7 _ _ z hf) (fun _ => w_crX rfl (show r < 12 by omega) (w_crJ (ch_mat (show r < 12 by omega)) rfl (show i < 18 by omega) rfl (w_crX rfl (show r < 12 by omega) (w_crJ (ch_mat (show r < 12 by omega)) rfl (show t < 18 by omega) rfl (w_ctJ (ch_mat (show r < 12 by omega)) rfl (show i < 18 by omega) ?_))))))
          rw [nI_1]
          exact ihe (r + 1) _ (by omega) (fr_J2 hf (by unfold acR; omega))
      refine u_X0_clearCross_5 ?_; unfold cm_X0_clearCross_5
      exact w_rdF (acR_a ha hf) (w_leF (by omega) (by omega) (w_crX rfl (show t < 12 by omega) (w_crJ (ch_mat (show t < 12 by omega)) rfl (show i < 18 by omega) rfl (w_nzJ hw (c6 _ (c - t) t z (by omega) hf)))))
  have c1 : ∀ (w3 : Int64), w3 ≠ 0 → ∀ (d r : Nat) (x5 : Int32) (z : ow_MS), r + d = c → t < r → (x5 = 0 ∨ x5 = 1) → fr acR y z → Tt (fun K k => c_X0_clearCross vl K k 1 (nI t) (nI c) x5 (nI r) 0 w3 0 41000 0 0 z) Q := by
    intro w3 hw d
    induction d with
    | zero =>
      intro r x5 z hr htr h5 hf
      refine u_X0_clearCross_1 ?_; unfold cm_X0_clearCross_1
      rw [nI_1]
      exact w_leT (by omega) (by omega) (c5 w3 hw (a - (t + 1)) (t + 1) x5 z (by omega) (by omega) h5 hf)
    | succ d ih =>
      intro r x5 z hr htr h5 hf
      have c4 : ∀ (t0 : Int32) (x9 : Int32) (w7 : Int64) (z : ow_MS), (t0 = 0 ∨ t0 = 1) → fr acR y z → Tt (fun K k => c_X0_clearCross vl K k 4 (nI t) (nI c) x5 (nI r) x9 w3 w7 41000 t0 x5 z) Q := by
        intro t0 x9 w7 z h0 hf
        refine u_X0_clearCross_4 ?_; unfold cm_X0_clearCross_4
        rw [nI_1]
        exact ih (r + 1) _ z (by omega) (by omega) (and01 h5 h0) hf
      have c3 : ∀ (x9 : Int32) (w7 : Int64) (z : ow_MS), fr acR y z → Tt (fun K k => c_X0_clearCross vl K k 3 (nI t) (nI c) x5 (nI r) x9 w3 w7 41000 0 0 z) Q := by
        intro x9 w7 z hf
        refine u_X0_clearCross_3 ?_; unfold cm_X0_clearCross_3
        exact w_crX rfl (show r < 12 by omega) (w_crJ (ch_mat (show r < 12 by omega)) rfl (show t < 18 by omega) rfl (w_if (fun _ => c4 1 _ _ z (Or.inr rfl) hf) (fun _ => c4 0 _ _ z (Or.inl rfl) hf)))
      have c2 : ∀ (w7 : Int64) (e i : Nat) (z : ow_MS), i + e = a → fr acR y z → Tt (fun K k => c_X0_clearCross vl K k 2 (nI t) (nI c) x5 (nI r) (nI i) w3 w7 41000 0 0 z) Q := by
        intro w7 e
        induction e with
        | zero =>
          intro i z hi hf
          refine u_X0_clearCross_2 ?_; unfold cm_X0_clearCross_2
          exact w_rdF (acR_a ha hf) (w_leT (by omega) (by omega) (c3 _ _ z hf))
        | succ e ihe =>
          intro i z hi hf
          refine u_X0_clearCross_2 ?_; unfold cm_X0_clearCross_2
          refine w_rdF (acR_a ha hf) (w_leF (by omega) (by omega) (w_if (fun _ => c3 _ _ z hf) (fun _ => w_crX rfl (show r < 12 by omega) (w_crJ (ch_mat (show r < 12 by omega)) rfl (show i < 18 by omega) rfl (w_crX rfl (show t < 12 by omega) (w_crJ (ch_mat (show t < 12 by omega)) rfl (show i < 18 by omega) rfl (w_ctJ (ch_mat (show r < 12 by omega)) rfl (show i < 18 by omega) ?_)))))))
          rw [nI_1]
          exact ihe (i + 1) _ (by omega) (fr_J2 hf (by unfold acR; omega))
      refine u_X0_clearCross_1 ?_; unfold cm_X0_clearCross_1
      exact w_leF (by omega) (by omega) (w_crX rfl (show r < 12 by omega) (w_crJ (ch_mat (show r < 12 by omega)) rfl (show t < 18 by omega) rfl (w_nzJ hw (c2 _ (a - t) t z (by omega) hf))))
  refine e_X0_clearCross ?_
  refine u_X0_clearCross_0 ?_; unfold cm_X0_clearCross_0
  refine w_crX rfl (show t < 12 by omega) (w_crJ (ch_mat (show t < 12 by omega)) rfl (show t < 18 by omega) rfl (w_if (fun _ => w_okZ (Or.inl rfl) (w_some ⟨Or.inl rfl, fr_rf⟩)) (fun h0 => ?_)))
  rw [nI_1]
  exact c1 _ (lgc0 h0) (c - (t + 1)) (t + 1) 1 y (by omega) (by omega) (Or.inr rfl) fr_rf
theorem u_X0_undivided_1 {vl : Nat → Nat} {x1 : Int32} {x2 : Int32} {x5 : Int32} {x6 : Int32} {w3 : Int64} {r0 : Nat} {z : ow_MS} {Q : (Int32 × ow_MS) → Prop} (H : Tt (fun K k => cm_X0_undivided_1 vl K (c_X0_undivided vl K k) x1 x2 x5 x6 w3 r0 z) Q) : Tt (fun K k => c_X0_undivided vl K k 1 x1 x2 x5 x6 w3 r0 z) Q := w_un (fun _ _ => rfl) H
theorem u_X0_undivided_2 {vl : Nat → Nat} {x1 : Int32} {x2 : Int32} {x5 : Int32} {x6 : Int32} {w3 : Int64} {r0 : Nat} {z : ow_MS} {Q : (Int32 × ow_MS) → Prop} (H : Tt (fun K k => cm_X0_undivided_2 vl K (c_X0_undivided vl K k) x1 x2 x5 x6 w3 r0 z) Q) : Tt (fun K k => c_X0_undivided vl K k 2 x1 x2 x5 x6 w3 r0 z) Q := w_un (fun _ _ => rfl) H
theorem e_X0_undivided {vl : Nat → Nat} {r0 : Nat} {x1 : Int32} {x2 : Int32} {z : ow_MS} {Q : (Int32 × ow_MS) → Prop} (H : Tt (fun K k => c_X0_undivided vl K k 0 x1 x2 0 0 0 r0 z) Q) : Te (fun K => ce_X0_undivided vl K r0 x1 x2 z) Q := w_te H
theorem u_X0_undivided_0 {vl : Nat → Nat} {x1 : Int32} {x2 : Int32} {x5 : Int32} {x6 : Int32} {w3 : Int64} {r0 : Nat} {z : ow_MS} {Q : (Int32 × ow_MS) → Prop} (H : Tt (fun K k => cm_X0_undivided_0 vl K (c_X0_undivided vl K k) x1 x2 x5 x6 w3 r0 z) Q) : Tt (fun K k => c_X0_undivided vl K k 0 x1 x2 x5 x6 w3 r0 z) Q := w_un (fun _ _ => rfl) H
theorem tc_undiv {t : Nat} (hc : c ≤ 12) (ha : y.1 41002 = nI a) (a18 : a ≤ 18) (htc : t < c) (hta : t < a) : Te (fun K => ce_X0_undivided vl K 41000 (nI t) (nI c) y) (fun r => (r.1 = -1 ∨ ∃ i, i < c ∧ r.1 = nI i) ∧ r.2 = y) := by
  let Q : Int32 × ow_MS → Prop := fun r => (r.1 = -1 ∨ ∃ i, i < c ∧ r.1 = nI i) ∧ r.2 = y
  have c1 : ∀ (w3 : Int64) (d r : Nat), r + d = c → Tt (fun K k => c_X0_undivided vl K k 1 (nI t) (nI c) (nI r) 0 w3 41000 y) Q := by
    intro w3 d
    induction d with
    | zero =>
      intro r hr
      refine u_X0_undivided_1 ?_; unfold cm_X0_undivided_1
      exact w_leT (by omega) (by omega) (w_some ⟨Or.inl rfl, rfl⟩)
    | succ d ih =>
      intro r hr
      have c2 : w3 ≠ 0 → ∀ (e i : Nat), i + e = a → Tt (fun K k => c_X0_undivided vl K k 2 (nI t) (nI c) (nI r) (nI i) w3 41000 y) Q := by
        intro hw e
        induction e with
        | zero =>
          intro i hi
          refine u_X0_undivided_2 ?_; unfold cm_X0_undivided_2
          rw [nI_1]
          exact w_rdF ha (w_leT (by omega) (by omega) (ih (r + 1) (by omega)))
        | succ e ihe =>
          intro i hi
          refine u_X0_undivided_2 ?_; unfold cm_X0_undivided_2
          rw [nI_1, nI_1]
          exact w_rdF ha (w_leF (by omega) (by omega) (w_crX rfl (show r < 12 by omega) (w_crJ (ch_mat (show r < 12 by omega)) rfl (show i < 18 by omega) rfl (w_nzJ hw (w_if (fun _ => ihe (i + 1) (by omega)) (fun _ => w_some ⟨Or.inr ⟨r, by omega, rfl⟩, rfl⟩))))))
      refine u_X0_undivided_1 ?_; unfold cm_X0_undivided_1
      rw [nI_1]
      exact w_leF (by omega) (by omega) (w_if (fun _ => w_some ⟨Or.inl rfl, rfl⟩) (fun h0 => c2 (lgc0 h0) (a - (t + 1)) (t + 1) (by omega)))
  refine e_X0_undivided ?_
  refine u_X0_undivided_0 ?_; unfold cm_X0_undivided_0
  rw [nI_1]
  exact w_crX rfl (show t < 12 by omega) (w_crJ (ch_mat (show t < 12 by omega)) rfl (show t < 18 by omega) rfl (c1 _ (c - (t + 1)) (t + 1) (by omega)))
theorem u_X0_isolate_1 {vl : Nat → Nat} {x1 : Int32} {x2 : Int32} {x3 : Int32} {x4 : Int32} {x5 : Int32} {r0 : Nat} {z : ow_MS} {Q : (Int32 × ow_MS) → Prop} (H : Tt (fun K k => cm_X0_isolate_1 vl K (c_X0_isolate vl K k) x1 x2 x3 x4 x5 r0 z) Q) : Tt (fun K k => c_X0_isolate vl K k 1 x1 x2 x3 x4 x5 r0 z) Q := w_un (fun _ _ => rfl) H
theorem u_X0_isolate_3 {vl : Nat → Nat} {x1 : Int32} {x2 : Int32} {x3 : Int32} {x4 : Int32} {x5 : Int32} {r0 : Nat} {z : ow_MS} {Q : (Int32 × ow_MS) → Prop} (H : Tt (fun K k => cm_X0_isolate_3 vl K (c_X0_isolate vl K k) x1 x2 x3 x4 x5 r0 z) Q) : Tt (fun K k => c_X0_isolate vl K k 3 x1 x2 x3 x4 x5 r0 z) Q := w_un (fun _ _ => rfl) H
theorem u_X0_isolate_2 {vl : Nat → Nat} {x1 : Int32} {x2 : Int32} {x3 : Int32} {x4 : Int32} {x5 : Int32} {r0 : Nat} {z : ow_MS} {Q : (Int32 × ow_MS) → Prop} (H : Tt (fun K k => cm_X0_isolate_2 vl K (c_X0_isolate vl K k) x1 x2 x3 x4 x5 r0 z) Q) : Tt (fun K k => c_X0_isolate vl K k 2 x1 x2 x3 x4 x5 r0 z) Q := w_un (fun _ _ => rfl) H
theorem e_X0_isolate {vl : Nat → Nat} {r0 : Nat} {x1 : Int32} {x2 : Int32} {z : ow_MS} {Q : (Int32 × ow_MS) → Prop} (H : Tt (fun K k => c_X0_isolate vl K k 0 x1 x2 0 0 0 r0 z) Q) : Te (fun K => ce_X0_isolate vl K r0 x1 x2 z) Q := w_te H
theorem u_X0_isolate_0 {vl : Nat → Nat} {x1 : Int32} {x2 : Int32} {x3 : Int32} {x4 : Int32} {x5 : Int32} {r0 : Nat} {z : ow_MS} {Q : (Int32 × ow_MS) → Prop} (H : Tt (fun K k => cm_X0_isolate_0 vl K (c_X0_isolate vl K k) x1 x2 x3 x4 x5 r0 z) Q) : Tt (fun K k => c_X0_isolate vl K k 0 x1 x2 x3 x4 x5 r0 z) Q := w_un (fun _ _ => rfl) H
theorem tc_isol {t : Nat} (hc : c ≤ 12) (ha : y.1 41002 = nI a) (a18 : a ≤ 18) (htc : t < c) (hta : t < a) : Te (fun K => ce_X0_isolate vl K 41000 (nI t) (nI c) y) (fun r => (r.1 = 0 ∨ r.1 = 1) ∧ fr acR y r.2) := by
  let Q : Int32 × ow_MS → Prop := fun r => (r.1 = 0 ∨ r.1 = 1) ∧ fr acR y r.2
  have c1 : ∀ (d i : Nat) (z : ow_MS), i + d = 1000 → fr acR y z → Tt (fun K k => c_X0_isolate vl K k 1 (nI t) (nI c) (nI i) 0 0 41000 z) Q := by
    intro d
    induction d with
    | zero =>
      intro i z hi hf
      refine u_X0_isolate_1 ?_; unfold cm_X0_isolate_1
      exact w_leT (a := 1000) (by omega) (by omega) (w_okZ (Or.inr rfl) (w_some ⟨Or.inr rfl, hf⟩))
    | succ d ih =>
      intro i z hi hf
      have c3 : ∀ (z : ow_MS), fr acR y z → Tt (fun K k => c_X0_isolate vl K k 3 (nI t) (nI c) (nI i) 0 0 41000 z) Q := by
        intro z hf
        refine u_X0_isolate_3 ?_; unfold cm_X0_isolate_3
        rw [nI_1]
        exact ih (i + 1) z (by omega) hf
      have c2 : ∀ (r : Nat), r < c → ∀ (e j : Nat) (z : ow_MS), j + e = a → fr acR y z → Tt (fun K k => c_X0_isolate vl K k 2 (nI t) (nI c) (nI i) (nI r) (nI j) 41000 z) Q := by
        intro r hr e
        induction e with
        | zero =>
          intro j z hj hf
          refine u_X0_isolate_2 ?_; unfold cm_X0_isolate_2
          refine w_rdF (acR_a ha hf) (w_leT (by omega) (by omega) (w_cs1 (tc_clear hc (acR_a ha hf) a18 htc hta) ?_))
          rintro v z1 ⟨-, f1⟩
          exact c3 z1 (fr_tr hf f1)
        | succ e ihe =>
          intro j z hj hf
          refine u_X0_isolate_2 ?_; unfold cm_X0_isolate_2
          refine w_rdF (acR_a ha hf) (w_leF (by omega) (by omega) (w_crX rfl (show t < 12 by omega) (w_crJ (ch_mat (show t < 12 by omega)) rfl (show j < 18 by omega) rfl (w_crX rfl (show r < 12 by omega) (w_crJ (ch_mat (show r < 12 by omega)) rfl (show j < 18 by omega) rfl (w_ctJ (ch_mat (show t < 12 by omega)) rfl (show j < 18 by omega) ?_))))))
          rw [nI_1]
          exact ihe (j + 1) _ (by omega) (fr_J2 hf (by unfold acR; omega))
      refine u_X0_isolate_1 ?_; unfold cm_X0_isolate_1
      refine w_leF (a := 1000) (by omega) (by omega) (w_cs1 (tc_bring hc (acR_a ha hf) a18 htc hta) ?_)
      rintro v z1 ⟨-, f1⟩
      have f01 := fr_tr hf f1
      dsimp only at f01
      refine w_if (fun _ => w_okZ (Or.inl rfl) (w_some ⟨Or.inl rfl, f01⟩)) (fun _ => w_cs1 (tc_clear hc (acR_a ha f01) a18 htc hta) ?_)
      rintro v z2 ⟨-, f2⟩
      have f02 := fr_tr f01 f2
      dsimp only at f02
      refine w_if (fun _ => c3 z2 f02) (fun _ => w_cs1 (tc_undiv hc (acR_a ha f02) a18 htc hta) ?_)
      rintro v z3 ⟨h3, e3⟩
      dsimp only at h3 e3
      rw [e3]
      rcases h3 with rfl | ⟨r, hr, rfl⟩
      · exact w_ifT rfl (w_okZ (Or.inr rfl) (w_some ⟨Or.inr rfl, f02⟩))
      · exact w_if (fun _ => w_okZ (Or.inr rfl) (w_some ⟨Or.inr rfl, f02⟩)) (fun _ => c2 r hr (a - t) t z2 (by omega) f02)
  refine e_X0_isolate ?_
  refine u_X0_isolate_0 ?_; unfold cm_X0_isolate_0
  exact c1 1000 0 y (by omega) fr_rf
end CCV
