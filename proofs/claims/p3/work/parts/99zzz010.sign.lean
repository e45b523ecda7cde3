section
/-! 99zzzr.sign -/
/-! signature has an answer -/
section SIG
variable {X : (Nat → Nat → Int32) → Prop} {z : ow_MS}
theorem s16_ix {x y : Nat} : (16 : Int32) * nI x + nI y = nI (16 * x + y) := by
  rw [show (16 : Int32) * nI x = nI (16 * x) from pk_mul 16 x, nI_add]
theorem u_X13_times_1 {x1 : Int32} {x2 : Int32} {x3 : Int32} {x6 : Int32} {w4 : Int64} {z : ow_MS} {Q : ow_MS → Prop} (H : Tt (fun K k => qm_X13_times_1 K (q_X13_times K k) x1 x2 x3 x6 w4 z) Q) : Tt (fun K k => q_X13_times K k 1 x1 x2 x3 x6 w4 z) Q := w_un (fun _ _ => rfl) H
theorem u_X13_times_2 {x1 : Int32} {x2 : Int32} {x3 : Int32} {x6 : Int32} {w4 : Int64} {z : ow_MS} {Q : ow_MS → Prop} (H : Tt (fun K k => qm_X13_times_2 K (q_X13_times K k) x1 x2 x3 x6 w4 z) Q) : Tt (fun K k => q_X13_times K k 2 x1 x2 x3 x6 w4 z) Q := w_un (fun _ _ => rfl) H
theorem u_X13_times_3 {x1 : Int32} {x2 : Int32} {x3 : Int32} {x6 : Int32} {w4 : Int64} {z : ow_MS} {Q : ow_MS → Prop} (H : Tt (fun K k => qm_X13_times_3 K (q_X13_times K k) x1 x2 x3 x6 w4 z) Q) : Tt (fun K k => q_X13_times K k 3 x1 x2 x3 x6 w4 z) Q := w_un (fun _ _ => rfl) H
theorem e_X13_times {x1 : Int32} {z : ow_MS} {Q : ow_MS → Prop} (H : Tt (fun K k => q_X13_times K k 0 x1 0 0 0 0 z) Q) : Te (fun K => qe_X13_times K x1 z) Q := w_te H
theorem u_X13_times_0 {x1 : Int32} {x2 : Int32} {x3 : Int32} {x6 : Int32} {w4 : Int64} {z : ow_MS} {Q : ow_MS → Prop} (H : Tt (fun K k => qm_X13_times_0 K (q_X13_times K k) x1 x2 x3 x6 w4 z) Q) : Tt (fun K k => q_X13_times K k 0 x1 x2 x3 x6 w4 z) Q := w_un (fun _ _ => rfl) H
theorem tp_times {n : Nat} (hn : n ≤ 16) : Te (fun K => qe_X13_times K (nI n) z) (fun z1 => fr (fun g => g = 55) z z1) := by
  let Q : ow_MS → Prop := fun z1 => fr (fun g => g = 55) z z1
  have c1 : ∀ (d i : Nat) (y : ow_MS), i + d = n → fr (fun g => g = 55) z y → Tt (fun K k => q_X13_times K k 1 (nI n) (nI i) 0 0 0 y) Q := by
    intro d
    induction d with
    | zero =>
      intro i y hi hf
      refine u_X13_times_1 ?_; unfold qm_X13_times_1
      exact w_leT (by omega) (by omega) (w_some hf)
    | succ d ih =>
      intro i y hi hf
      have c2 : ∀ (d2 j : Nat) (y : ow_MS), j + d2 = n → fr (fun g => g = 55) z y → Tt (fun K k => q_X13_times K k 2 (nI n) (nI i) (nI j) 0 0 y) Q := by
        intro d2
        induction d2 with
        | zero =>
          intro j y hj hf
          refine u_X13_times_2 ?_; unfold qm_X13_times_2
          rw [nI_1]
          exact w_leT (by omega) (by omega) (ih (i + 1) y (by omega) hf)
        | succ d2 ih2 =>
          intro j y hj hf
          have c3 : ∀ (d3 k : Nat) (w : Int64), k + d3 = n → Tt (fun K t => q_X13_times K t 3 (nI n) (nI i) (nI j) (nI k) w y) Q := by
            intro d3
            induction d3 with
            | zero =>
              intro k w hk
              refine u_X13_times_3 ?_; unfold qm_X13_times_3
              rw [s16_ix, show nI j + 1 = nI (j + 1) from nI_1 _]
              exact w_leT (by omega) (by omega) (w_wrJ ml55 rfl (by omega) (ih2 (j + 1) _ (by omega) (fr_J2 hf rfl)))
            | succ d3 ih3 =>
              intro k w hk
              refine u_X13_times_3 ?_; unfold qm_X13_times_3
              rw [s16_ix, s16_ix, s16_ix, show nI k + 1 = nI (k + 1) from nI_1 _]
              exact w_leF (by omega) (by omega) (w_rdJ ml54 rfl (by omega) rfl (w_rdJ ml56 rfl (by omega) rfl (ih3 (k + 1) _ (by omega))))
          refine u_X13_times_2 ?_; unfold qm_X13_times_2
          exact w_leF (by omega) (by omega) (c3 n 0 0 (by omega))
      refine u_X13_times_1 ?_; unfold qm_X13_times_1
      exact w_leF (by omega) (by omega) (c2 n 0 y (by omega) hf)
  refine e_X13_times ?_
  refine u_X13_times_0 ?_; unfold qm_X13_times_0
  exact c1 n 0 z (by omega) fr_rf
theorem u_X13_changes_1 {x1 : Int32} {x2 : Int32} {x3 : Int32} {x4 : Int32} {x5 : Int32} {x6 : Int32} {t0 : Int32} {t1 : Int32} {z : ow_MS} {Q : (Int32 × ow_MS) → Prop} (H : Tt (fun K k => qm_X13_changes_1 K (q_X13_changes K k) x1 x2 x3 x4 x5 x6 t0 t1 z) Q) : Tt (fun K k => q_X13_changes K k 1 x1 x2 x3 x4 x5 x6 t0 t1 z) Q := w_un (fun _ _ => rfl) H
theorem u_X13_changes_5 {x1 : Int32} {x2 : Int32} {x3 : Int32} {x4 : Int32} {x5 : Int32} {x6 : Int32} {t0 : Int32} {t1 : Int32} {z : ow_MS} {Q : (Int32 × ow_MS) → Prop} (H : Tt (fun K k => qm_X13_changes_5 K (q_X13_changes K k) x1 x2 x3 x4 x5 x6 t0 t1 z) Q) : Tt (fun K k => q_X13_changes K k 5 x1 x2 x3 x4 x5 x6 t0 t1 z) Q := w_un (fun _ _ => rfl) H
theorem u_X13_changes_4 {x1 : Int32} {x2 : Int32} {x3 : Int32} {x4 : Int32} {x5 : Int32} {x6 : Int32} {t0 : Int32} {t1 : Int32} {z : ow_MS} {Q : (Int32 × ow_MS) → Prop} (H : Tt (fun K k => qm_X13_changes_4 K (q_X13_changes K k) x1 x2 x3 x4 x5 x6 t0 t1 z) Q) : Tt (fun K k => q_X13_changes K k 4 x1 x2 x3 x4 x5 x6 t0 t1 z) Q := w_un (fun _ _ => rfl) H
theorem u_X13_changes_3 {x1 : Int32} {x2 : Int32} {x3 : Int32} {x4 : Int32} {x5 : Int32} {x6 : Int32} {t0 : Int32} {t1 : Int32} {z : ow_MS} {Q : (Int32 × ow_MS) → Prop} (H : Tt (fun K k => qm_X13_changes_3 K (q_X13_changes K k) x1 x2 x3 x4 x5 x6 t0 t1 z) Q) : Tt (fun K k => q_X13_changes K k 3 x1 x2 x3 x4 x5 x6 t0 t1 z) Q := w_un (fun _ _ => rfl) H
theorem u_X13_changes_2 {x1 : Int32} {x2 : Int32} {x3 : Int32} {x4 : Int32} {x5 : Int32} {x6 : Int32} {t0 : Int32} {t1 : Int32} {z : ow_MS} {Q : (Int32 × ow_MS) → Prop} (H : Tt (fun K k => qm_X13_changes_2 K (q_X13_changes K k) x1 x2 x3 x4 x5 x6 t0 t1 z) Q) : Tt (fun K k => q_X13_changes K k 2 x1 x2 x3 x4 x5 x6 t0 t1 z) Q := w_un (fun _ _ => rfl) H
theorem e_X13_changes {x1 : Int32} {x2 : Int32} {z : ow_MS} {Q : (Int32 × ow_MS) → Prop} (H : Tt (fun K k => q_X13_changes K k 0 x1 x2 0 0 0 0 0 0 z) Q) : Te (fun K => qe_X13_changes K x1 x2 z) Q := w_te H
theorem u_X13_changes_0 {x1 : Int32} {x2 : Int32} {x3 : Int32} {x4 : Int32} {x5 : Int32} {x6 : Int32} {t0 : Int32} {t1 : Int32} {z : ow_MS} {Q : (Int32 × ow_MS) → Prop} (H : Tt (fun K k => qm_X13_changes_0 K (q_X13_changes K k) x1 x2 x3 x4 x5 x6 t0 t1 z) Q) : Tt (fun K k => q_X13_changes K k 0 x1 x2 x3 x4 x5 x6 t0 t1 z) Q := w_un (fun _ _ => rfl) H
theorem tp_changes {n : Nat} {b : Int32} (hn : n ≤ 19) : Te (fun K => qe_X13_changes K (nI n) b z) (fun r => r.2 = z) := by
  have c1 : ∀ (d : Nat) (x3 x4 : Int32), d ≤ n + 1 → Tt (fun K k => q_X13_changes K k 1 (nI n) b x3 x4 (iI ((d : Int) - 1)) 0 0 0 z) (fun r => r.2 = z) := by
    intro d
    induction d with
    | zero =>
      intro x3 x4 _
      refine u_X13_changes_1 ?_; unfold qm_X13_changes_1
      exact w_ifT (by show iI (-1) < iI 0; rw [iI_lt (by omega) (by omega) (by omega) (by omega)]; omega) (w_some rfl)
    | succ d ih =>
      intro x3 x4 hd
      have e1 : iI (((d + 1 : Nat) : Int) - 1) = nI d := iI_nI (by omega)
      have e2 : nI d + (-1) = iI ((d : Int) - 1) := by
        rw [nI_iI]
        show iI (d : Int) + iI (-1) = _
        rw [iI_add]
        rfl
      rw [e1]
      have c5 : ∀ (x3 x4 x6 : Int32), Tt (fun K k => q_X13_changes K k 5 (nI n) b x3 x4 (nI d) x6 0 0 z) (fun r => r.2 = z) := by
        intro x3 x4 x6
        refine u_X13_changes_5 ?_; unfold qm_X13_changes_5
        rw [e2]
        exact ih _ _ (by omega)
      have c4 : ∀ (x3 x4 x6 t0 t1 : Int32), Tt (fun K k => q_X13_changes K k 4 (nI n) b x3 x4 (nI d) x6 t0 t1 z) (fun r => r.2 = z) := by
        intro x3 x4 x6 t0 t1
        refine u_X13_changes_4 ?_; unfold qm_X13_changes_4
        exact c5 _ _ _
      have c3 : ∀ (x3 x4 x6 t0 : Int32), Tt (fun K k => q_X13_changes K k 3 (nI n) b x3 x4 (nI d) x6 t0 0 z) (fun r => r.2 = z) := by
        intro x3 x4 x6 t0
        refine u_X13_changes_3 ?_; unfold qm_X13_changes_3
        exact c4 _ _ _ _ _
      have c2 : ∀ (x3 x4 x6 : Int32), Tt (fun K k => q_X13_changes K k 2 (nI n) b x3 x4 (nI d) x6 0 0 z) (fun r => r.2 = z) := by
        intro x3 x4 x6
        refine u_X13_changes_2 ?_; unfold qm_X13_changes_2
        exact w_if (fun _ => c5 _ _ _) (fun _ => w_if (fun _ => c3 _ _ _ _) (fun _ => w_if (fun _ => c3 _ _ _ _) (fun _ => c4 _ _ _ _ _)))
      refine u_X13_changes_1 ?_; unfold qm_X13_changes_1
      exact w_ifF (fun h9 => absurd h9 (nI_pos (by omega))) (w_rdJ ml57 rfl (by omega) rfl (w_if (fun _ => c2 _ _ _) (fun _ => w_if (fun _ => c2 _ _ _) (fun _ => c2 _ _ _))))
  refine e_X13_changes ?_
  refine u_X13_changes_0 ?_; unfold qm_X13_changes_0
  have := c1 (n + 1) 0 0 (Nat.le_refl _)
  rw [show iI (((n + 1 : Nat) : Int) - 1) = nI n from iI_nI (by omega)] at this
  exact this
abbrev rtH (g : Nat) : Prop := 55 ≤ g ∧ g ≤ 57
theorem u_X13_rootsOf_2 {x1 : Int32} {x2 : Int32} {x3 : Int32} {x4 : Int32} {x5 : Int32} {w3 : Int64} {t2 : Int32} {y0 : Int64} {y1 : Int64} {z : ow_MS} {Q : (Int32 × ow_MS) → Prop} (H : Tt (fun K k => qm_X13_rootsOf_2 K (q_X13_rootsOf K k) x1 x2 x3 x4 x5 w3 t2 y0 y1 z) Q) : Tt (fun K k => q_X13_rootsOf K k 2 x1 x2 x3 x4 x5 w3 t2 y0 y1 z) Q := w_un (fun _ _ => rfl) H
theorem u_X13_rootsOf_6 {x1 : Int32} {x2 : Int32} {x3 : Int32} {x4 : Int32} {x5 : Int32} {w3 : Int64} {t2 : Int32} {y0 : Int64} {y1 : Int64} {z : ow_MS} {Q : (Int32 × ow_MS) → Prop} (H : Tt (fun K k => qm_X13_rootsOf_6 K (q_X13_rootsOf K k) x1 x2 x3 x4 x5 w3 t2 y0 y1 z) Q) : Tt (fun K k => q_X13_rootsOf K k 6 x1 x2 x3 x4 x5 w3 t2 y0 y1 z) Q := w_un (fun _ _ => rfl) H
theorem u_X13_rootsOf_3 {x1 : Int32} {x2 : Int32} {x3 : Int32} {x4 : Int32} {x5 : Int32} {w3 : Int64} {t2 : Int32} {y0 : Int64} {y1 : Int64} {z : ow_MS} {Q : (Int32 × ow_MS) → Prop} (H : Tt (fun K k => qm_X13_rootsOf_3 K (q_X13_rootsOf K k) x1 x2 x3 x4 x5 w3 t2 y0 y1 z) Q) : Tt (fun K k => q_X13_rootsOf K k 3 x1 x2 x3 x4 x5 w3 t2 y0 y1 z) Q := w_un (fun _ _ => rfl) H
theorem u_X13_rootsOf_4 {x1 : Int32} {x2 : Int32} {x3 : Int32} {x4 : Int32} {x5 : Int32} {w3 : Int64} {t2 : Int32} {y0 : Int64} {y1 : Int64} {z : ow_MS} {Q : (Int32 × ow_MS) → Prop} (H : Tt (fun K k => qm_X13_rootsOf_4 K (q_X13_rootsOf K k) x1 x2 x3 x4 x5 w3 t2 y0 y1 z) Q) : Tt (fun K k => q_X13_rootsOf K k 4 x1 x2 x3 x4 x5 w3 t2 y0 y1 z) Q := w_un (fun _ _ => rfl) H
theorem u_X13_rootsOf_5 {x1 : Int32} {x2 : Int32} {x3 : Int32} {x4 : Int32} {x5 : Int32} {w3 : Int64} {t2 : Int32} {y0 : Int64} {y1 : Int64} {z : ow_MS} {Q : (Int32 × ow_MS) → Prop} (H : Tt (fun K k => qm_X13_rootsOf_5 K (q_X13_rootsOf K k) x1 x2 x3 x4 x5 w3 t2 y0 y1 z) Q) : Tt (fun K k => q_X13_rootsOf K k 5 x1 x2 x3 x4 x5 w3 t2 y0 y1 z) Q := w_un (fun _ _ => rfl) H
theorem u_X13_rootsOf_1 {x1 : Int32} {x2 : Int32} {x3 : Int32} {x4 : Int32} {x5 : Int32} {w3 : Int64} {t2 : Int32} {y0 : Int64} {y1 : Int64} {z : ow_MS} {Q : (Int32 × ow_MS) → Prop} (H : Tt (fun K k => qm_X13_rootsOf_1 K (q_X13_rootsOf K k) x1 x2 x3 x4 x5 w3 t2 y0 y1 z) Q) : Tt (fun K k => q_X13_rootsOf K k 1 x1 x2 x3 x4 x5 w3 t2 y0 y1 z) Q := w_un (fun _ _ => rfl) H
theorem e_X13_rootsOf {x1 : Int32} {z : ow_MS} {Q : (Int32 × ow_MS) → Prop} (H : Tt (fun K k => q_X13_rootsOf K k 0 x1 0 0 0 0 0 0 0 0 z) Q) : Te (fun K => qe_X13_rootsOf K x1 z) Q := w_te H
theorem u_X13_rootsOf_0 {x1 : Int32} {x2 : Int32} {x3 : Int32} {x4 : Int32} {x5 : Int32} {w3 : Int64} {t2 : Int32} {y0 : Int64} {y1 : Int64} {z : ow_MS} {Q : (Int32 × ow_MS) → Prop} (H : Tt (fun K k => qm_X13_rootsOf_0 K (q_X13_rootsOf K k) x1 x2 x3 x4 x5 w3 t2 y0 y1 z) Q) : Tt (fun K k => q_X13_rootsOf K k 0 x1 x2 x3 x4 x5 w3 t2 y0 y1 z) Q := w_un (fun _ _ => rfl) H
theorem tp_roots {n : Nat} (hn : n ≤ 14) : Te (fun K => qe_X13_rootsOf K (nI n) z) (fun r => fr rtH z r.2) := by
  let Q : Int32 × ow_MS → Prop := fun r => fr rtH z r.2
  have h55 : ∀ {y y1 : ow_MS}, fr rtH z y → fr (fun g => g = 55) y y1 → fr rtH z y1 := fun h1 h2 => fr_tr h1 (fr_mono (fun g hg => by unfold rtH; omega) h2)
  have c2 : ∀ (d k : Nat) (y : ow_MS), k + d = n + 1 → 1 ≤ k → fr rtH z y → Tt (fun K t => q_X13_rootsOf K t 2 (nI n) (nI k) 0 0 0 0 0 0 0 y) Q := by
    intro d
    induction d with
    | zero =>
      intro k y hk hk1 hf
      refine u_X13_rootsOf_2 ?_; unfold qm_X13_rootsOf_2
      refine w_ltT (by omega) (by omega) (w_cs1 (tp_changes (by omega)) (fun a y1 e1 => ?_))
      have e1 : y1 = y := e1
      subst e1
      refine w_cs1 (tp_changes (by omega)) (fun a y2 e2 => ?_)
      have e2 : y2 = y1 := e2
      subst e2
      exact w_some hf
    | succ d ih =>
      intro k y hk hk1 hf
      have c6 : ∀ (d2 i : Nat) (w : Int64) (y : ow_MS), i + d2 = n → fr rtH z y → Tt (fun K t => q_X13_rootsOf K t 6 (nI n) (nI k) 0 0 (nI i) w 0 0 0 y) Q := by
        intro d2
        induction d2 with
        | zero =>
          intro i w y hi hf
          have hnz : (nI k).toInt64 ≠ 0 := by
            rw [nI_l (by omega)]
            exact fun e => by
              have := (pk_lEQ (a := k) (b := 0) (by omega) (by omega)).mp e
              omega
          refine u_X13_rootsOf_6 ?_; unfold qm_X13_rootsOf_6
          rw [show nI n - nI k = nI (n - k) from pk_sub (by omega), nI_1]
          exact w_leT (by omega) (by omega) (w_nzJ hnz (w_wrJ ml57 rfl (by omega) (ih (k + 1) _ (by omega) (by omega) (fr_J2 hf (by unfold rtH; omega)))))
        | succ d2 ih2 =>
          intro i w y hi hf
          refine u_X13_rootsOf_6 ?_; unfold qm_X13_rootsOf_6
          rw [show (17 : Int32) * nI i = nI (17 * i) from pk_mul 17 i, show nI i + 1 = nI (i + 1) from nI_1 _]
          exact w_leF (by omega) (by omega) (w_rdJ ml55 rfl (by omega) rfl (ih2 (i + 1) _ y (by omega) hf))
      have c3 : ∀ (d2 i : Nat) (y : ow_MS), i + d2 = n → fr rtH z y → Tt (fun K t => q_X13_rootsOf K t 3 (nI n) (nI k) (nI i) 0 0 0 0 0 0 y) Q := by
        intro d2
        induction d2 with
        | zero =>
          intro i y hi hf
          refine u_X13_rootsOf_3 ?_; unfold qm_X13_rootsOf_3
          exact w_leT (by omega) (by omega) (w_cs0 (tp_times (by omega)) (fun y1 f1 => c6 n 0 0 y1 (by omega) (h55 hf f1)))
        | succ d2 ih2 =>
          intro i y hi hf
          have c4 : ∀ (d3 j : Nat) (y : ow_MS), j + d3 = n → fr rtH z y → Tt (fun K t => q_X13_rootsOf K t 4 (nI n) (nI k) (nI i) (nI j) 0 0 0 0 0 y) Q := by
            intro d3
            induction d3 with
            | zero =>
              intro j y hj hf
              refine u_X13_rootsOf_4 ?_; unfold qm_X13_rootsOf_4
              rw [show nI i + 1 = nI (i + 1) from nI_1 _]
              exact w_leT (by omega) (by omega) (ih2 (i + 1) y (by omega) hf)
            | succ d3 ih3 =>
              intro j y hj hf
              have c5 : ∀ (y0 y1 : Int64), Tt (fun K t => q_X13_rootsOf K t 5 (nI n) (nI k) (nI i) (nI j) 0 0 (nI (16 * i + j)) y0 y1 y) Q := by
                intro y0 y1
                refine u_X13_rootsOf_5 ?_; unfold qm_X13_rootsOf_5
                rw [show nI j + 1 = nI (j + 1) from nI_1 _]
                exact w_wrJ ml56 rfl (by omega) (ih3 (j + 1) _ (by omega) (fr_J2 hf (by unfold rtH; omega)))
              refine u_X13_rootsOf_4 ?_; unfold qm_X13_rootsOf_4
              rw [s16_ix, show nI n - nI k + 1 = nI (n - k + 1) from by rw [pk_sub (by omega)]; exact nI_1 _]
              exact w_leF (by omega) (by omega) (w_rdJ ml55 rfl (by omega) rfl (w_if (fun _ => w_rdJ ml57 rfl (by omega) rfl (c5 _ _)) (fun _ => c5 _ _)))
          refine u_X13_rootsOf_3 ?_; unfold qm_X13_rootsOf_3
          exact w_leF (by omega) (by omega) (c4 n 0 y (by omega) hf)
      refine u_X13_rootsOf_2 ?_; unfold qm_X13_rootsOf_2
      exact w_ltF (by omega) (by omega) (w_cs0 (tp_times (by omega)) (fun y1 f1 => c3 n 0 y1 (by omega) (h55 hf f1)))
  have c1 : ∀ (d i : Nat) (y : ow_MS), i + d = 256 → fr rtH z y → Tt (fun K t => q_X13_rootsOf K t 1 (nI n) (nI i) 0 0 0 0 0 0 0 y) Q := by
    intro d
    induction d with
    | zero =>
      intro i y hi hf
      refine u_X13_rootsOf_1 ?_; unfold qm_X13_rootsOf_1
      exact w_leT (a := 256) (by omega) (by omega) (w_wrJ ml57 rfl (by omega) (c2 n 1 _ (by omega) (Nat.le_refl _) (fr_J2 hf (by unfold rtH; omega))))
    | succ d ih =>
      intro i y hi hf
      refine u_X13_rootsOf_1 ?_; unfold qm_X13_rootsOf_1
      rw [nI_1]
      exact w_leF (a := 256) (by omega) (by omega) (w_wrJ ml56 rfl (by omega) (ih (i + 1) _ (by omega) (fr_J2 hf (by unfold rtH; omega))))
  refine e_X13_rootsOf ?_
  refine u_X13_rootsOf_0 ?_; unfold qm_X13_rootsOf_0
  exact c1 256 0 z (by omega) fr_rf
/-- what stands while signatures are found: the net with its faces and parts -/
def fcI (y : ow_MS) (n : Nat) (A : rn_L) (sg : Nat → Bool) (F P : Nat) : Prop := oNet y n A sg ∧ rn_fc y n A.flatten.length F ∧ wkF2 A sg F (y.2.1 (n + 14)) ∧ rn_pt y n A P
theorem fcI_fr {n : Nat} {y y1 : ow_MS} {A : rn_L} {sg : Nat → Bool} {F P : Nat} {H : Nat → Prop} (hn : mw_net n) (hf : fr H y y1) (hH : ∀ g, H g → g < 1000) (h : fcI y n A sg F P) : fcI y1 n A sg F P := by
  have hmn := net_mod hn
  have e : ∀ g, 1000 ≤ g → y1.1 g = y.1 g ∧ y1.2.1 g = y.2.1 g := fun g hg => by
    have := hf g (fun h9 => by have := hH g h9; omega)
    exact ⟨this.1, this.2.1⟩
  obtain ⟨h1, h2, h3, h4⟩ := h
  refine ⟨oNet_fr hf (fun g hg => by have := hH g hg; omega) h1, ?_, ?_, ?_⟩
  · unfold rn_fc
    rw [(e (n + 16) (by omega)).1, (e (n + 14) (by omega)).2, (e (n + 15) (by omega)).2]
    exact h2
  · rw [(e (n + 14) (by omega)).2]
    exact h3
  · unfold rn_pt
    rw [(e (n + 13) (by omega)).1, (e (n + 12) (by omega)).2]
    exact h4
/-- the colours: 0, 1 or 2; what has one is a face of part p; f0 has 1 -/
def clI (y : ow_MS) (n : Nat) (A : rn_L) (p f0 : Nat) : Prop := (∀ f, f < 80 → ∃ c, c ≤ 2 ∧ y.2.1 52 f = nI c ∧ (c ≠ 0 → ∃ s, inP A (y.2.1 (n + 12)) p (s / 2) ∧ y.2.1 (n + 14) s = nI f)) ∧ y.2.1 52 f0 = 1
def zeC (y : ow_MS) : Nat := ((List.range 80).filter (fun f => decide (y.2.1 52 f = 0))).length
theorem zeC_lt {y : ow_MS} {f : Nat} {x : Int32} (hf : f < 80) (h0 : y.2.1 52 f = 0) (hx : x ≠ 0) : zeC (usI y 52 f x) < zeC y := by
  have hn : ((List.range 80).filter (fun f' => decide ((usI y 52 f x).2.1 52 f' = 0))).Nodup := List.nodup_range.filter _
  have h1 : f ∉ (List.range 80).filter (fun f' => decide ((usI y 52 f x).2.1 52 f' = 0)) := fun h9 => by
    have := of_decide_eq_true (List.mem_filter.mp h9).2
    rw [po_usI_at] at this
    exact hx this
  have := nodup_le (f :: (List.range 80).filter (fun f' => decide ((usI y 52 f x).2.1 52 f' = 0))) ((List.range 80).filter (fun f => decide (y.2.1 52 f = 0))) (List.nodup_cons.mpr ⟨h1, hn⟩) (fun g hg => by
    rcases List.mem_cons.mp hg with h9 | h9
    · rw [h9]
      exact List.mem_filter.mpr ⟨List.mem_range.mpr hf, decide_eq_true h0⟩
    · obtain ⟨a1, a2⟩ := List.mem_filter.mp h9
      have a2 := of_decide_eq_true a2
      have hgf : g ≠ f := fun e => by
        rw [e, po_usI_at] at a2
        exact hx a2
      rw [po_usI_ne hgf] at a2
      exact List.mem_filter.mpr ⟨a1, decide_eq_true a2⟩)
  rw [List.length_cons] at this
  exact this
theorem three_sub {c : Nat} (h1 : c ≤ 2) (h0 : c ≠ 0) : (3 : Int32) - nI c = nI (3 - c) := pk_sub (a := 3) (by omega)
theorem u_X13_colourFaces_8 {x2 : Int32} {x3 : Int32} {x4 : Int32} {x5 : Int32} {x6 : Int32} {x7 : Int32} {r1 : Nat} {t0 : Int32} {t1 : Int32} {z : ow_MS} {Q : (Int32 × ow_MS) → Prop} (H : Tt (fun K k => qm_X13_colourFaces_8 K (q_X13_colourFaces K k) x2 x3 x4 x5 x6 x7 r1 t0 t1 z) Q) : Tt (fun K k => q_X13_colourFaces K k 8 x2 x3 x4 x5 x6 x7 r1 t0 t1 z) Q := w_un (fun _ _ => rfl) H
theorem u_X13_colourFaces_9 {x2 : Int32} {x3 : Int32} {x4 : Int32} {x5 : Int32} {x6 : Int32} {x7 : Int32} {r1 : Nat} {t0 : Int32} {t1 : Int32} {z : ow_MS} {Q : (Int32 × ow_MS) → Prop} (H : Tt (fun K k => qm_X13_colourFaces_9 K (q_X13_colourFaces K k) x2 x3 x4 x5 x6 x7 r1 t0 t1 z) Q) : Tt (fun K k => q_X13_colourFaces K k 9 x2 x3 x4 x5 x6 x7 r1 t0 t1 z) Q := w_un (fun _ _ => rfl) H
theorem u_X13_colourFaces_3 {x2 : Int32} {x3 : Int32} {x4 : Int32} {x5 : Int32} {x6 : Int32} {x7 : Int32} {r1 : Nat} {t0 : Int32} {t1 : Int32} {z : ow_MS} {Q : (Int32 × ow_MS) → Prop} (H : Tt (fun K k => qm_X13_colourFaces_3 K (q_X13_colourFaces K k) x2 x3 x4 x5 x6 x7 r1 t0 t1 z) Q) : Tt (fun K k => q_X13_colourFaces K k 3 x2 x3 x4 x5 x6 x7 r1 t0 t1 z) Q := w_un (fun _ _ => rfl) H
theorem u_X13_colourFaces_2 {x2 : Int32} {x3 : Int32} {x4 : Int32} {x5 : Int32} {x6 : Int32} {x7 : Int32} {r1 : Nat} {t0 : Int32} {t1 : Int32} {z : ow_MS} {Q : (Int32 × ow_MS) → Prop} (H : Tt (fun K k => qm_X13_colourFaces_2 K (q_X13_colourFaces K k) x2 x3 x4 x5 x6 x7 r1 t0 t1 z) Q) : Tt (fun K k => q_X13_colourFaces K k 2 x2 x3 x4 x5 x6 x7 r1 t0 t1 z) Q := w_un (fun _ _ => rfl) H
theorem u_X13_colourFaces_7 {x2 : Int32} {x3 : Int32} {x4 : Int32} {x5 : Int32} {x6 : Int32} {x7 : Int32} {r1 : Nat} {t0 : Int32} {t1 : Int32} {z : ow_MS} {Q : (Int32 × ow_MS) → Prop} (H : Tt (fun K k => qm_X13_colourFaces_7 K (q_X13_colourFaces K k) x2 x3 x4 x5 x6 x7 r1 t0 t1 z) Q) : Tt (fun K k => q_X13_colourFaces K k 7 x2 x3 x4 x5 x6 x7 r1 t0 t1 z) Q := w_un (fun _ _ => rfl) H
theorem u_X13_colourFaces_5 {x2 : Int32} {x3 : Int32} {x4 : Int32} {x5 : Int32} {x6 : Int32} {x7 : Int32} {r1 : Nat} {t0 : Int32} {t1 : Int32} {z : ow_MS} {Q : (Int32 × ow_MS) → Prop} (H : Tt (fun K k => qm_X13_colourFaces_5 K (q_X13_colourFaces K k) x2 x3 x4 x5 x6 x7 r1 t0 t1 z) Q) : Tt (fun K k => q_X13_colourFaces K k 5 x2 x3 x4 x5 x6 x7 r1 t0 t1 z) Q := w_un (fun _ _ => rfl) H
theorem u_X13_colourFaces_6 {x2 : Int32} {x3 : Int32} {x4 : Int32} {x5 : Int32} {x6 : Int32} {x7 : Int32} {r1 : Nat} {t0 : Int32} {t1 : Int32} {z : ow_MS} {Q : (Int32 × ow_MS) → Prop} (H : Tt (fun K k => qm_X13_colourFaces_6 K (q_X13_colourFaces K k) x2 x3 x4 x5 x6 x7 r1 t0 t1 z) Q) : Tt (fun K k => q_X13_colourFaces K k 6 x2 x3 x4 x5 x6 x7 r1 t0 t1 z) Q := w_un (fun _ _ => rfl) H
theorem u_X13_colourFaces_4 {x2 : Int32} {x3 : Int32} {x4 : Int32} {x5 : Int32} {x6 : Int32} {x7 : Int32} {r1 : Nat} {t0 : Int32} {t1 : Int32} {z : ow_MS} {Q : (Int32 × ow_MS) → Prop} (H : Tt (fun K k => qm_X13_colourFaces_4 K (q_X13_colourFaces K k) x2 x3 x4 x5 x6 x7 r1 t0 t1 z) Q) : Tt (fun K k => q_X13_colourFaces K k 4 x2 x3 x4 x5 x6 x7 r1 t0 t1 z) Q := w_un (fun _ _ => rfl) H
theorem u_X13_colourFaces_1 {x2 : Int32} {x3 : Int32} {x4 : Int32} {x5 : Int32} {x6 : Int32} {x7 : Int32} {r1 : Nat} {t0 : Int32} {t1 : Int32} {z : ow_MS} {Q : (Int32 × ow_MS) → Prop} (H : Tt (fun K k => qm_X13_colourFaces_1 K (q_X13_colourFaces K k) x2 x3 x4 x5 x6 x7 r1 t0 t1 z) Q) : Tt (fun K k => q_X13_colourFaces K k 1 x2 x3 x4 x5 x6 x7 r1 t0 t1 z) Q := w_un (fun _ _ => rfl) H
theorem e_X13_colourFaces {r1 : Nat} {x2 : Int32} {z : ow_MS} {Q : (Int32 × ow_MS) → Prop} (H : Tt (fun K k => q_X13_colourFaces K k 0 x2 0 0 0 0 0 r1 0 0 z) Q) : Te (fun K => qe_X13_colourFaces K r1 x2 z) Q := w_te H
theorem u_X13_colourFaces_0 {x2 : Int32} {x3 : Int32} {x4 : Int32} {x5 : Int32} {x6 : Int32} {x7 : Int32} {r1 : Nat} {t0 : Int32} {t1 : Int32} {z : ow_MS} {Q : (Int32 × ow_MS) → Prop} (H : Tt (fun K k => qm_X13_colourFaces_0 K (q_X13_colourFaces K k) x2 x3 x4 x5 x6 x7 r1 t0 t1 z) Q) : Tt (fun K k => q_X13_colourFaces K k 0 x2 x3 x4 x5 x6 x7 r1 t0 t1 z) Q := w_un (fun _ _ => rfl) H
theorem tp_colour {n F P p v0 c : Nat} {A : rn_L} {sg : Nat → Bool} (hn : mw_net n) (hok : okF A.flatten c) (hc : c ≤ 12) (hI : fcI z n A sg F P) (hp : p < P) (hv0 : inP A (z.2.1 (n + 12)) p v0) (h53 : ∀ f, f < 80 → inR z 53 f 16) : Te (fun K => qe_X13_colourFaces K n (nI v0) z) (fun r => (∃ k, 1 ≤ k ∧ k ≤ 14 ∧ r.1 = nI k) ∧ fr (fun g => g = 52 ∨ g = 53) z r.2 ∧ ∀ f, f < 80 → inR r.2 53 f 16) := by
  have hV := okF_len hok
  have hmn := net_mod hn
  have hd := wkF_ok hI.1.wk
  have hC := hI.1.2.2.2
  obtain ⟨q1, q2, q3, q4⟩ := hI.2.1
  let Q : Int32 × ow_MS → Prop := fun r => (∃ k, 1 ≤ k ∧ k ≤ 14 ∧ r.1 = nI k) ∧ fr (fun g => g = 52 ∨ g = 53) z r.2 ∧ ∀ f, f < 80 → inR r.2 53 f 16
  have iF : ∀ {y : ow_MS}, fr (fun g => g = 52 ∨ g = 53) z y → fcI y n A sg F P := fun hf => fcI_fr hn hf (fun g hg => by omega) hI
  have e14 : ∀ {y : ow_MS}, fr (fun g => g = 52 ∨ g = 53) z y → y.2.1 (n + 14) = z.2.1 (n + 14) := fun hf => (hf (n + 14) (by omega)).2.1
  have e12 : ∀ {y : ow_MS}, fr (fun g => g = 52 ∨ g = 53) z y → y.2.1 (n + 12) = z.2.1 (n + 12) := fun hf => (hf (n + 12) (by omega)).2.1
  obtain ⟨f0, hf0, ef0⟩ := q3 (2 * v0) (by have := hv0.1; omega)
  -- how many faces the part has
  obtain ⟨R, hR, hRin⟩ := euler (sg := sg) (f := fun s => (z.2.1 (n + 14) s).toNatClampNeg) hok (by omega) hI.2.2.2.2.2.1 hp (fun s hs => by
    obtain ⟨f1, hf1, e1⟩ := q3 s hs
    have := (hI.2.2.1 f1 hf1 s hs).mp e1
    show (z.2.1 (n + 14) (phi A sg s)).toNatClampNeg = (z.2.1 (n + 14) s).toNatClampNeg
    rw [this, e1]) hv0
  have c8 : ∀ (d f : Nat) (x3 x4 : Int32) (y : ow_MS), f + d = F → fr (fun g => g = 52 ∨ g = 53) z y → clI y n A p f0 → (∀ f, f < 80 → inR y 53 f 16) → Tt (fun K i => q_X13_colourFaces K i 8 (nI v0) x3 x4 (nI ((List.range f).filter (fun g => decide (y.2.1 52 g = 1))).length) (nI f) 0 n 0 0 y) Q := by
    have bnd : ∀ (f : Nat) (y : ow_MS), f ≤ F → fr (fun g => g = 52 ∨ g = 53) z y → clI y n A p f0 → ((List.range f).filter (fun g => decide (y.2.1 52 g = 1))).length ≤ 14 := by
      intro f y hfF hf hcl
      have := nodup_le ((List.range f).filter (fun g => decide (y.2.1 52 g = 1))) R (List.nodup_range.filter _) (fun g hg => by
        obtain ⟨g1, g2⟩ := List.mem_filter.mp hg
        have g1 := List.mem_range.mp g1
        have g2 := of_decide_eq_true g2
        obtain ⟨cc, k1, k2, k3⟩ := hcl.1 g (by omega)
        obtain ⟨s, s1, s2⟩ := k3 (fun e => by rw [e, g2] at k2; exact absurd k2 (by decide))
        rw [e12 hf] at s1
        rw [e14 hf] at s2
        have := hRin s s1
        simp only [s2, nI_clamp (show g < 2 ^ 31 by omega)] at this
        exact this)
      omega
    intro d
    induction d with
    | zero =>
      intro f x3 x4 y hfF hf hcl hw
      have hfF : f = F := by omega
      subst hfF
      refine u_X13_colourFaces_8 ?_; unfold qm_X13_colourFaces_8
      refine w_rdF (iF hf).2.1.1 (w_leT (by omega) (by omega) (w_some ⟨⟨_, ?_, bnd f y (Nat.le_refl _) hf hcl, rfl⟩, hf, hw⟩))
      exact List.length_pos_of_mem (List.mem_filter.mpr ⟨List.mem_range.mpr hf0, decide_eq_true hcl.2⟩)
    | succ d ih =>
      intro f x3 x4 y hfF hf hcl hw
      have hb := bnd (f + 1) y (by omega) hf hcl
      have hs : ((List.range (f + 1)).filter (fun g => decide (y.2.1 52 g = 1))).length = ((List.range f).filter (fun g => decide (y.2.1 52 g = 1))).length + if y.2.1 52 f = 1 then 1 else 0 := by
        rw [List.range_succ, List.filter_append, List.length_append]
        by_cases h : y.2.1 52 f = 1
        · rw [if_pos h, List.filter_cons_of_pos (p := fun g => decide (y.2.1 52 g = 1)) (decide_eq_true h)]
          rfl
        · rw [if_neg h, List.filter_cons_of_neg (p := fun g => decide (y.2.1 52 g = 1)) (by simpa using h)]
          rfl
      rw [hs] at hb
      refine u_X13_colourFaces_8 ?_; unfold qm_X13_colourFaces_8
      refine w_rdF (iF hf).2.1.1 (w_leF (by omega) (by omega) (w_rdI ml52 rfl (by omega) rfl (w_if (fun h9 => w_wrI ml53 rfl (by omega) ?_) (fun h9 => ?_))))
      · rw [if_pos h9] at hs hb
        refine u_X13_colourFaces_9 ?_; unfold qm_X13_colourFaces_9
        rw [nI_1, nI_1, ← hs]
        refine ih (f + 1) x3 x4 (usI y 53 f _) (by omega) (fr_I2 hf (Or.inr rfl)) ⟨fun g hg => ?_, rd_ot (by omega) hcl.2⟩ (fun g hg => inR_keep (hw g hg) ⟨_, by omega, rfl⟩)
        obtain ⟨cc, k1, k2, k3⟩ := hcl.1 g hg
        refine ⟨cc, k1, rd_ot (by omega) k2, fun h8 => ?_⟩
        obtain ⟨s, s1, s2⟩ := k3 h8
        exact ⟨s, by rw [po_usI_ot (by omega)]; exact s1, by rw [po_usI_ot (by omega)]; exact s2⟩
      · rw [if_neg h9] at hs
        refine u_X13_colourFaces_9 ?_; unfold qm_X13_colourFaces_9
        rw [nI_1]
        have := ih (f + 1) x3 x4 y (by omega) hf hcl hw
        rw [hs] at this
        exact this
  have c2 : ∀ (m : Nat) (x4 : Int32) (y : ow_MS), zeC y ≤ m → fr (fun g => g = 52) z y → clI y n A p f0 → x4 = 1 → Tt (fun K i => q_X13_colourFaces K i 2 (nI v0) (nI p) x4 0 0 0 n 0 0 y) Q := by
    intro m
    induction m using Nat.strongRecOn with
    | ind m ih =>
    intro x4 y hm hf hcl hx4
    have hfm : ∀ {y : ow_MS}, fr (fun g => g = 52) z y → fr (fun g => g = 52 ∨ g = 53) z y := fun h => fr_mono (fun g hg => Or.inl hg) h
    have pass : ∀ (d g : Nat) (x4 : Int32) (y1 : ow_MS), g + d = A.flatten.length → fr (fun g => g = 52) z y1 → clI y1 n A p f0 → (x4 = 0 ∨ x4 = 1 ∧ zeC y1 < zeC y) → zeC y1 ≤ zeC y → Tt (fun K i => q_X13_colourFaces K i 3 (nI v0) (nI p) x4 (nI g) 0 0 n 0 0 y1) Q := by
      intro d
      induction d with
      | zero =>
        intro g x4 y1 hg hf hcl h4 hz
        refine u_X13_colourFaces_3 ?_; unfold qm_X13_colourFaces_3
        refine w_rdF (iF (hfm hf)).1.1.V (w_leT (by omega) (by omega) ?_)
        rcases h4 with h4 | ⟨h4, h5⟩
        · rw [h4]
          refine u_X13_colourFaces_2 ?_; unfold qm_X13_colourFaces_2
          exact w_ifT rfl (c8 F 0 _ _ y1 (by omega) (hfm hf) hcl (fun f hf9 => inR_fr hf (by omega) (h53 f hf9)))
        · exact ih (zeC y1) (by omega) x4 y1 (Nat.le_refl _) hf hcl h4
      | succ d ihp =>
        intro g x4 y1 hg hf hcl h4 hz
        have hgl : g < A.flatten.length := by omega
        have hcc := (rn_c_in A g hgl).1
        have hI1 := iF (hfm hf)
        obtain ⟨fl, hfl, efl⟩ := hI1.2.1.2.2.1 (2 * g) (by omega)
        obtain ⟨fr0, hfr, efr⟩ := hI1.2.1.2.2.1 (2 * g + 1) (by omega)
        have c7 : ∀ (x4 x6 x7 : Int32) (y1 : ow_MS), fr (fun g => g = 52) z y1 → clI y1 n A p f0 → (x4 = 0 ∨ x4 = 1 ∧ zeC y1 < zeC y) → zeC y1 ≤ zeC y → Tt (fun K i => q_X13_colourFaces K i 7 (nI v0) (nI p) x4 (nI g) x6 x7 n 0 0 y1) Q := by
          intro x4 x6 x7 y1 hf hcl h4 hz
          refine u_X13_colourFaces_7 ?_; unfold qm_X13_colourFaces_7
          rw [nI_1]
          exact ihp (g + 1) x4 y1 (by omega) hf hcl h4 hz
        obtain ⟨cl, l1, l2, l3⟩ := hcl.1 fl (by omega)
        obtain ⟨cr, r1, r2, r3⟩ := hcl.1 fr0 (by omega)
        -- a face gets a colour
        have put : ∀ (f cc : Nat) (s : Nat), f < 80 → y1.2.1 52 f = 0 → cc ≤ 2 → cc ≠ 0 → inP A (y1.2.1 (n + 12)) p (s / 2) → y1.2.1 (n + 14) s = nI f → clI (usI y1 52 f (nI cc)) n A p f0 ∧ zeC (usI y1 52 f (nI cc)) < zeC y := by
          intro f cc s hf80 h0 hc2 hc0 hs1 hs2
          refine ⟨⟨fun f' hf' => ?_, ?_⟩, Nat.lt_of_lt_of_le (zeC_lt hf80 h0 (fun e => hc0 ((nI_eq (by omega) (by omega)).mp (e.trans nI_0.symm)))) hz⟩
          · by_cases hff : f' = f
            · rw [hff]
              exact ⟨cc, hc2, po_usI_at, fun _ => ⟨s, by rw [po_usI_ot (by omega)]; exact hs1, by rw [po_usI_ot (by omega)]; exact hs2⟩⟩
            · obtain ⟨c9, k1, k2, k3⟩ := hcl.1 f' hf'
              refine ⟨c9, k1, rd_ne hff k2, fun h8 => ?_⟩
              obtain ⟨s, s1, s2⟩ := k3 h8
              exact ⟨s, by rw [po_usI_ot (by omega)]; exact s1, by rw [po_usI_ot (by omega)]; exact s2⟩
          · have hff : f0 ≠ f := fun e => by
              rw [← e, hcl.2] at h0
              exact absurd h0 (by decide)
            exact rd_ne hff hcl.2
        refine u_X13_colourFaces_3 ?_; unfold qm_X13_colourFaces_3
        rw [show (2 : Int32) * nI g = nI (2 * g) from rn_mul2, show nI (2 * g) + 1 = nI (2 * g + 1) from nI_1 _]
        refine w_rdF hI1.1.1.V (w_leF (by omega) hgl (w_rdI (pl14 hn) rfl (by omega) efl (w_rdI (pl14 hn) rfl (by omega) efr (w_rdI (pl8 hn) rfl (by omega) (lk_c hI1.1.1 hgl) (w_rdI (pl12 hn) rfl (by omega) rfl (w_if (fun hpp => ?_) (fun _ => c7 _ _ _ y1 hf hcl h4 hz)))))))
        have hgP : inP A (y1.2.1 (n + 12)) p g := ⟨hgl, hpp⟩
        have c5 : ∀ (t0 t1 : Int32), (t1 = if cl = 0 then 1 else 0) → (t0 = if cr = 0 then 1 else 0) → Tt (fun K i => q_X13_colourFaces K i 5 (nI v0) (nI p) x4 (nI g) (nI fl) (nI fr0) n t0 t1 y1) Q := by
          intro t0 t1 ht1 ht0
          refine u_X13_colourFaces_5 ?_; unfold qm_X13_colourFaces_5
          refine w_if (fun _ => c7 _ _ _ y1 hf hcl h4 hz) (fun hne => w_rdI ml52 rfl (by omega) l2 (w_eqN (b := 0) (by omega) (by omega) (fun hl0 => ?_) (fun hl0 => ?_)))
          · have hr0 : cr ≠ 0 := fun e => hne (by rw [ht1, ht0, if_pos hl0, if_pos e])
            rw [hl0] at l2
            obtain ⟨k1, k2⟩ := put fl (3 - cr) (2 * g) (by omega) l2 (by omega) (by omega) (by rw [show 2 * g / 2 = g by omega]; exact hgP) efl
            refine w_rdI ml52 rfl (by omega) r2 ?_
            rw [three_sub r1 hr0]
            refine w_wrI ml52 rfl (by omega) ?_
            refine u_X13_colourFaces_6 ?_; unfold qm_X13_colourFaces_6
            exact c7 1 _ _ _ (fr_I2 hf rfl) k1 (Or.inr ⟨rfl, k2⟩) (Nat.le_of_lt k2)
          · have hr0 : cr = 0 := Classical.byContradiction (fun e => hne (by rw [ht1, ht0, if_neg hl0, if_neg e]))
            rw [hr0] at r2
            obtain ⟨k1, k2⟩ := put fr0 (3 - cl) (2 * g + 1) (by omega) r2 (by omega) (by omega) (by rw [show (2 * g + 1) / 2 = g by omega]; exact hgP) efr
            refine w_rdI ml52 rfl (by omega) l2 ?_
            rw [three_sub l1 hl0]
            refine w_wrI ml52 rfl (by omega) ?_
            refine u_X13_colourFaces_6 ?_; unfold qm_X13_colourFaces_6
            exact c7 1 _ _ _ (fr_I2 hf rfl) k1 (Or.inr ⟨rfl, k2⟩) (Nat.le_of_lt k2)
        have c4 : ∀ (t0 : Int32), (t0 = if cl = 0 then 1 else 0) → Tt (fun K i => q_X13_colourFaces K i 4 (nI v0) (nI p) x4 (nI g) (nI fl) (nI fr0) n t0 0 y1) Q := by
          intro t0 ht0
          refine u_X13_colourFaces_4 ?_; unfold qm_X13_colourFaces_4
          exact w_rdI ml52 rfl (by omega) r2 (w_eqN (b := 0) (by omega) (by omega) (fun h9 => c5 _ _ ht0 (if_pos h9).symm) (fun h9 => c5 _ _ ht0 (if_neg h9).symm))
        exact w_rdI ml52 rfl (by omega) l2 (w_eqN (b := 0) (by omega) (by omega) (fun h9 => c4 _ (if_pos h9).symm) (fun h9 => c4 _ (if_neg h9).symm))
    rw [hx4]
    refine u_X13_colourFaces_2 ?_; unfold qm_X13_colourFaces_2
    exact w_ifF (by decide) (pass A.flatten.length 0 0 y (by omega) hf hcl (Or.inl rfl) (Nat.le_refl _))
  have c1 : ∀ (d i : Nat) (y : ow_MS), i + d = 80 → fr (fun g => g = 52) z y → (∀ f, f < i → y.2.1 52 f = 0) → Tt (fun K t => q_X13_colourFaces K t 1 (nI v0) (nI p) (nI i) 0 0 0 n 0 0 y) Q := by
    intro d
    induction d with
    | zero =>
      intro i y hi hf h0
      have e14' : y.2.1 (n + 14) = z.2.1 (n + 14) := (hf (n + 14) (by omega)).2.1
      have e12' : y.2.1 (n + 12) = z.2.1 (n + 12) := (hf (n + 12) (by omega)).2.1
      have hv0l := hv0.1
      refine u_X13_colourFaces_1 ?_; unfold qm_X13_colourFaces_1
      rw [show (2 : Int32) * nI v0 = nI (2 * v0) from rn_mul2]
      refine w_leT (a := 80) (by omega) (by omega) (w_rdI (pl14 hn) rfl (by omega) (by rw [e14']; exact ef0) (w_wrI ml52 rfl (by omega) (c2 _ 1 _ (Nat.le_refl _) (fr_I2 hf rfl) ⟨fun f hf80 => ?_, po_usI_at⟩ rfl)))
      by_cases hff : f = f0
      · rw [hff]
        exact ⟨1, by omega, po_usI_at, fun _ => ⟨2 * v0, by rw [po_usI_ot (by omega), e12', show 2 * v0 / 2 = v0 by omega]; exact hv0, by rw [po_usI_ot (by omega), e14']; exact ef0⟩⟩
      · exact ⟨0, by omega, rd_ne hff (h0 f (by omega)), fun h9 => absurd rfl h9⟩
    | succ d ih =>
      intro i y hi hf h0
      refine u_X13_colourFaces_1 ?_; unfold qm_X13_colourFaces_1
      rw [nI_1]
      refine w_leF (a := 80) (by omega) (by omega) (w_wrI ml52 rfl (by omega) (ih (i + 1) _ (by omega) (fr_I2 hf rfl) (fun f h9 => ?_)))
      by_cases hfi : f = i
      · rw [hfi, po_usI_at]
      · exact rd_ne hfi (h0 f (by omega))
  have hv0l := hv0.1
  have hcc0 := (rn_c_in A v0 hv0l).1
  refine e_X13_colourFaces ?_
  refine u_X13_colourFaces_0 ?_; unfold qm_X13_colourFaces_0
  exact w_rdI (pl8 hn) rfl (by omega) (lk_c hI.1.1 hv0.1) (w_rdI (pl12 hn) rfl (by omega) hv0.2 (c1 80 0 z (by omega) fr_rf (fun f hf => absurd hf (by omega))))
end SIG
end
section
/-! 99zzzs.sign2 -/
/-! signature has an answer: the parts -/
section SIG2
variable {X : (Nat → Nat → Int32) → Prop} {z : ow_MS}
abbrev sgH (g : Nat) : Prop := 52 ≤ g ∧ g ≤ 57
theorem e_X13_signatureOf {r1 : Nat} {x2 : Int32} {z : ow_MS} {Q : (Int32 × ow_MS) → Prop} (H : Tt (fun K k => q_X13_signatureOf K k 0 x2 0 0 0 0 0 0 0 0 0 0 0 0 0 0 0 r1 0 0 z) Q) : Te (fun K => qe_X13_signatureOf K r1 x2 z) Q := w_te H
theorem u_X13_signatureOf_0 {x2 : Int32} {x3 : Int32} {x4 : Int32} {x5 : Int32} {x6 : Int32} {x7 : Int32} {x8 : Int32} {x9 : Int32} {x10 : Int32} {x11 : Int32} {x12 : Int32} {x13 : Int32} {x14 : Int32} {x15 : Int32} {x16 : Int32} {x17 : Int32} {r1 : Nat} {t0 : Int32} {t1 : Int32} {z : ow_MS} {Q : (Int32 × ow_MS) → Prop} (H : Tt (fun K k => qm_X13_signatureOf_0 K (q_X13_signatureOf K k) x2 x3 x4 x5 x6 x7 x8 x9 x10 x11 x12 x13 x14 x15 x16 x17 r1 t0 t1 z) Q) : Tt (fun K k => q_X13_signatureOf K k 0 x2 x3 x4 x5 x6 x7 x8 x9 x10 x11 x12 x13 x14 x15 x16 x17 r1 t0 t1 z) Q := w_un (fun _ _ => rfl) H
theorem u_X13_signatureOf_2 {x2 : Int32} {x3 : Int32} {x4 : Int32} {x5 : Int32} {x6 : Int32} {x7 : Int32} {x8 : Int32} {x9 : Int32} {x10 : Int32} {x11 : Int32} {x12 : Int32} {x13 : Int32} {x14 : Int32} {x15 : Int32} {x16 : Int32} {x17 : Int32} {r1 : Nat} {t0 : Int32} {t1 : Int32} {z : ow_MS} {Q : (Int32 × ow_MS) → Prop} (H : Tt (fun K k => qm_X13_signatureOf_2 K (q_X13_signatureOf K k) x2 x3 x4 x5 x6 x7 x8 x9 x10 x11 x12 x13 x14 x15 x16 x17 r1 t0 t1 z) Q) : Tt (fun K k => q_X13_signatureOf K k 2 x2 x3 x4 x5 x6 x7 x8 x9 x10 x11 x12 x13 x14 x15 x16 x17 r1 t0 t1 z) Q := w_un (fun _ _ => rfl) H
theorem u_X13_signatureOf_10 {x2 : Int32} {x3 : Int32} {x4 : Int32} {x5 : Int32} {x6 : Int32} {x7 : Int32} {x8 : Int32} {x9 : Int32} {x10 : Int32} {x11 : Int32} {x12 : Int32} {x13 : Int32} {x14 : Int32} {x15 : Int32} {x16 : Int32} {x17 : Int32} {r1 : Nat} {t0 : Int32} {t1 : Int32} {z : ow_MS} {Q : (Int32 × ow_MS) → Prop} (H : Tt (fun K k => qm_X13_signatureOf_10 K (q_X13_signatureOf K k) x2 x3 x4 x5 x6 x7 x8 x9 x10 x11 x12 x13 x14 x15 x16 x17 r1 t0 t1 z) Q) : Tt (fun K k => q_X13_signatureOf K k 10 x2 x3 x4 x5 x6 x7 x8 x9 x10 x11 x12 x13 x14 x15 x16 x17 r1 t0 t1 z) Q := w_un (fun _ _ => rfl) H
theorem u_X13_signatureOf_9 {x2 : Int32} {x3 : Int32} {x4 : Int32} {x5 : Int32} {x6 : Int32} {x7 : Int32} {x8 : Int32} {x9 : Int32} {x10 : Int32} {x11 : Int32} {x12 : Int32} {x13 : Int32} {x14 : Int32} {x15 : Int32} {x16 : Int32} {x17 : Int32} {r1 : Nat} {t0 : Int32} {t1 : Int32} {z : ow_MS} {Q : (Int32 × ow_MS) → Prop} (H : Tt (fun K k => qm_X13_signatureOf_9 K (q_X13_signatureOf K k) x2 x3 x4 x5 x6 x7 x8 x9 x10 x11 x12 x13 x14 x15 x16 x17 r1 t0 t1 z) Q) : Tt (fun K k => q_X13_signatureOf K k 9 x2 x3 x4 x5 x6 x7 x8 x9 x10 x11 x12 x13 x14 x15 x16 x17 r1 t0 t1 z) Q := w_un (fun _ _ => rfl) H
theorem u_X13_signatureOf_8 {x2 : Int32} {x3 : Int32} {x4 : Int32} {x5 : Int32} {x6 : Int32} {x7 : Int32} {x8 : Int32} {x9 : Int32} {x10 : Int32} {x11 : Int32} {x12 : Int32} {x13 : Int32} {x14 : Int32} {x15 : Int32} {x16 : Int32} {x17 : Int32} {r1 : Nat} {t0 : Int32} {t1 : Int32} {z : ow_MS} {Q : (Int32 × ow_MS) → Prop} (H : Tt (fun K k => qm_X13_signatureOf_8 K (q_X13_signatureOf K k) x2 x3 x4 x5 x6 x7 x8 x9 x10 x11 x12 x13 x14 x15 x16 x17 r1 t0 t1 z) Q) : Tt (fun K k => q_X13_signatureOf K k 8 x2 x3 x4 x5 x6 x7 x8 x9 x10 x11 x12 x13 x14 x15 x16 x17 r1 t0 t1 z) Q := w_un (fun _ _ => rfl) H
theorem u_X13_signatureOf_7 {x2 : Int32} {x3 : Int32} {x4 : Int32} {x5 : Int32} {x6 : Int32} {x7 : Int32} {x8 : Int32} {x9 : Int32} {x10 : Int32} {x11 : Int32} {x12 : Int32} {x13 : Int32} {x14 : Int32} {x15 : Int32} {x16 : Int32} {x17 : Int32} {r1 : Nat} {t0 : Int32} {t1 : Int32} {z : ow_MS} {Q : (Int32 × ow_MS) → Prop} (H : Tt (fun K k => qm_X13_signatureOf_7 K (q_X13_signatureOf K k) x2 x3 x4 x5 x6 x7 x8 x9 x10 x11 x12 x13 x14 x15 x16 x17 r1 t0 t1 z) Q) : Tt (fun K k => q_X13_signatureOf K k 7 x2 x3 x4 x5 x6 x7 x8 x9 x10 x11 x12 x13 x14 x15 x16 x17 r1 t0 t1 z) Q := w_un (fun _ _ => rfl) H
theorem u_X13_signatureOf_6 {x2 : Int32} {x3 : Int32} {x4 : Int32} {x5 : Int32} {x6 : Int32} {x7 : Int32} {x8 : Int32} {x9 : Int32} {x10 : Int32} {x11 : Int32} {x12 : Int32} {x13 : Int32} {x14 : Int32} {x15 : Int32} {x16 : Int32} {x17 : Int32} {r1 : Nat} {t0 : Int32} {t1 : Int32} {z : ow_MS} {Q : (Int32 × ow_MS) → Prop} (H : Tt (fun K k => qm_X13_signatureOf_6 K (q_X13_signatureOf K k) x2 x3 x4 x5 x6 x7 x8 x9 x10 x11 x12 x13 x14 x15 x16 x17 r1 t0 t1 z) Q) : Tt (fun K k => q_X13_signatureOf K k 6 x2 x3 x4 x5 x6 x7 x8 x9 x10 x11 x12 x13 x14 x15 x16 x17 r1 t0 t1 z) Q := w_un (fun _ _ => rfl) H
theorem u_X13_signatureOf_5 {x2 : Int32} {x3 : Int32} {x4 : Int32} {x5 : Int32} {x6 : Int32} {x7 : Int32} {x8 : Int32} {x9 : Int32} {x10 : Int32} {x11 : Int32} {x12 : Int32} {x13 : Int32} {x14 : Int32} {x15 : Int32} {x16 : Int32} {x17 : Int32} {r1 : Nat} {t0 : Int32} {t1 : Int32} {z : ow_MS} {Q : (Int32 × ow_MS) → Prop} (H : Tt (fun K k => qm_X13_signatureOf_5 K (q_X13_signatureOf K k) x2 x3 x4 x5 x6 x7 x8 x9 x10 x11 x12 x13 x14 x15 x16 x17 r1 t0 t1 z) Q) : Tt (fun K k => q_X13_signatureOf K k 5 x2 x3 x4 x5 x6 x7 x8 x9 x10 x11 x12 x13 x14 x15 x16 x17 r1 t0 t1 z) Q := w_un (fun _ _ => rfl) H
theorem u_X13_signatureOf_4 {x2 : Int32} {x3 : Int32} {x4 : Int32} {x5 : Int32} {x6 : Int32} {x7 : Int32} {x8 : Int32} {x9 : Int32} {x10 : Int32} {x11 : Int32} {x12 : Int32} {x13 : Int32} {x14 : Int32} {x15 : Int32} {x16 : Int32} {x17 : Int32} {r1 : Nat} {t0 : Int32} {t1 : Int32} {z : ow_MS} {Q : (Int32 × ow_MS) → Prop} (H : Tt (fun K k => qm_X13_signatureOf_4 K (q_X13_signatureOf K k) x2 x3 x4 x5 x6 x7 x8 x9 x10 x11 x12 x13 x14 x15 x16 x17 r1 t0 t1 z) Q) : Tt (fun K k => q_X13_signatureOf K k 4 x2 x3 x4 x5 x6 x7 x8 x9 x10 x11 x12 x13 x14 x15 x16 x17 r1 t0 t1 z) Q := w_un (fun _ _ => rfl) H
theorem u_X13_signatureOf_3 {x2 : Int32} {x3 : Int32} {x4 : Int32} {x5 : Int32} {x6 : Int32} {x7 : Int32} {x8 : Int32} {x9 : Int32} {x10 : Int32} {x11 : Int32} {x12 : Int32} {x13 : Int32} {x14 : Int32} {x15 : Int32} {x16 : Int32} {x17 : Int32} {r1 : Nat} {t0 : Int32} {t1 : Int32} {z : ow_MS} {Q : (Int32 × ow_MS) → Prop} (H : Tt (fun K k => qm_X13_signatureOf_3 K (q_X13_signatureOf K k) x2 x3 x4 x5 x6 x7 x8 x9 x10 x11 x12 x13 x14 x15 x16 x17 r1 t0 t1 z) Q) : Tt (fun K k => q_X13_signatureOf K k 3 x2 x3 x4 x5 x6 x7 x8 x9 x10 x11 x12 x13 x14 x15 x16 x17 r1 t0 t1 z) Q := w_un (fun _ _ => rfl) H
theorem u_X13_signatureOf_1 {x2 : Int32} {x3 : Int32} {x4 : Int32} {x5 : Int32} {x6 : Int32} {x7 : Int32} {x8 : Int32} {x9 : Int32} {x10 : Int32} {x11 : Int32} {x12 : Int32} {x13 : Int32} {x14 : Int32} {x15 : Int32} {x16 : Int32} {x17 : Int32} {r1 : Nat} {t0 : Int32} {t1 : Int32} {z : ow_MS} {Q : (Int32 × ow_MS) → Prop} (H : Tt (fun K k => qm_X13_signatureOf_1 K (q_X13_signatureOf K k) x2 x3 x4 x5 x6 x7 x8 x9 x10 x11 x12 x13 x14 x15 x16 x17 r1 t0 t1 z) Q) : Tt (fun K k => q_X13_signatureOf K k 1 x2 x3 x4 x5 x6 x7 x8 x9 x10 x11 x12 x13 x14 x15 x16 x17 r1 t0 t1 z) Q := w_un (fun _ _ => rfl) H
theorem tp_sigOf {n F P p v0 c : Nat} {A : rn_L} {sg : Nat → Bool} (hn : mw_net n) (hok : okF A.flatten c) (hc : c ≤ 12) (hI : fcI z n A sg F P) (hp : p < P) (hv0 : inP A (z.2.1 (n + 12)) p v0) (h53 : ∀ f, f < 80 → inR z 53 f 16) : Te (fun K => qe_X13_signatureOf K n (nI v0) z) (fun r => fr sgH z r.2 ∧ ∀ f, f < 80 → inR r.2 53 f 16) := by
  have hV := okF_len hok
  have hmn := net_mod hn
  have hd := wkF_ok hI.1.wk
  have hC := hI.1.2.2.2
  let Q : Int32 × ow_MS → Prop := fun r => fr sgH z r.2 ∧ ∀ f, f < 80 → inR r.2 53 f 16
  have iF : ∀ {y : ow_MS}, fr sgH z y → fcI y n A sg F P := fun hf => fcI_fr hn hf (fun g hg => by unfold sgH at hg; omega) hI
  have hv0l := hv0.1
  have hcc0 := (rn_c_in A v0 hv0l).1
  refine e_X13_signatureOf ?_
  refine u_X13_signatureOf_0 ?_; unfold qm_X13_signatureOf_0
  refine w_rdI (pl8 hn) rfl (by omega) (lk_c hI.1.1 hv0.1) (w_rdI (pl12 hn) rfl (by omega) hv0.2 (w_cs1 (tp_colour hn hok hc hI hp hv0 h53) (fun a1 z1 ⟨⟨k, hk1, hk14, ek⟩, f1, w1⟩ => ?_)))
  have ek : a1 = nI k := ek
  have f1 : fr (fun g => g = 52 ∨ g = 53) z z1 := f1
  have w1 : ∀ f, f < 80 → inR z1 53 f 16 := w1
  rw [ek]
  have hf1 : fr sgH z z1 := fr_mono (fun g hg => by unfold sgH; omega) f1
  have c2 : ∀ (d o : Nat) (x5 : Int32) (y : ow_MS), o + d = A.flatten.length → fr sgH z y → (∀ f, f < 80 → inR y 53 f 16) → Tt (fun K i => q_X13_signatureOf K i 2 (nI v0) (nI p) (nI k) x5 (nI o) 0 0 0 0 0 0 0 0 0 0 0 n 0 0 y) Q := by
    intro d
    induction d with
    | zero =>
      intro o x5 y ho hf hw
      refine u_X13_signatureOf_2 ?_; unfold qm_X13_signatureOf_2
      rw [show nI k - 1 = nI (k - 1) from pk_sub (b := 1) hk1]
      exact w_rdF (iF hf).1.1.V (w_leT (by omega) (by omega) (w_cs1 (tp_roots (by omega)) (fun a y1 f2 => w_some ⟨fr_tr hf (fr_mono (fun g hg => by unfold rtH at hg; unfold sgH; omega) f2), fun f h9 => inR_fr f2 (by unfold rtH; omega) (hw f h9)⟩)))
    | succ d ih =>
      intro o x5 y ho hf hw
      have hol : o < A.flatten.length := by omega
      have hIy := iF hf
      have hO := hIy.1
      obtain ⟨x1, x2, x3⟩ := hO.cx hol
      have hcc := (rn_c_in A o hol).1
      have hml := mtf_lt hd hol
      have c10 : ∀ (x5 : Int32) (y : ow_MS), fr sgH z y → (∀ f, f < 80 → inR y 53 f 16) → Tt (fun K i => q_X13_signatureOf K i 10 (nI v0) (nI p) (nI k) x5 (nI o) 0 0 0 0 0 0 0 0 0 0 0 n 0 0 y) Q := by
        intro x5 y hf hw
        refine u_X13_signatureOf_10 ?_; unfold qm_X13_signatureOf_10
        rw [nI_1]
        exact ih (o + 1) x5 y (by omega) hf hw
      have face : ∀ s, s < 2 * A.flatten.length → ∃ f, f < 80 ∧ y.2.1 (n + 14) s = nI f := fun s hs => by
        obtain ⟨f, h1, h2⟩ := hIy.2.1.2.2.1 s hs
        exact ⟨f, by have := hIy.2.1.2.1; omega, h2⟩
      have c4 : ∀ (t0 : Int32) (u : Nat), u < A.flatten.length → Tt (fun K i => q_X13_signatureOf K i 4 (nI v0) (nI p) (nI k) x5 (nI o) t0 0 0 0 0 0 0 0 0 0 0 n (nI u) 0 y) Q := by
        intro x7 u hu
        have hmu := mtf_lt hd hu
        have hpu := rn_pv_lt hu
        have hpm := rn_pv_lt hmu
        obtain ⟨fa, ha, ea⟩ := face (2 * u) (by omega)
        obtain ⟨fe, he, ee⟩ := face (2 * u + 1) (by omega)
        obtain ⟨fw, hw0, ew⟩ := face (2 * rn_pv A u) (by omega)
        obtain ⟨fb, hb, eb⟩ := face (2 * rn_pv A (mtf A u)) (by omega)
        have c9 : ∀ (x8 x9 x10 x11 x12 x13 x14 x15 x16 x17 t0 t1 : Int32) (y : ow_MS), fr sgH z y → (∀ f, f < 80 → inR y 53 f 16) → Tt (fun K i => q_X13_signatureOf K i 9 (nI v0) (nI p) (nI k) x5 (nI o) x7 x8 x9 x10 x11 x12 x13 x14 x15 x16 x17 n t0 t1 y) Q := by
          intro x8 x9 x10 x11 x12 x13 x14 x15 x16 x17 t0 t1 y hf hw
          refine u_X13_signatureOf_9 ?_; unfold qm_X13_signatureOf_9
          exact c10 _ y hf hw
        have c8 : ∀ (x14 x15 : Int32) (i f : Nat), i < 16 → f < 80 → Tt (fun K t => q_X13_signatureOf K t 8 (nI v0) (nI p) (nI k) x5 (nI o) x7 (nI u) (nI (mtf A u)) (nI fa) (nI fe) (nI fw) (nI fb) x14 x15 (nI i) 0 n (nI f) 0 y) Q := by
          intro x14 x15 i f hi hf80
          obtain ⟨j, hj, ej⟩ := hw f hf80
          refine u_X13_signatureOf_8 ?_; unfold qm_X13_signatureOf_8
          refine w_rdI ml53 rfl hf80 ej ?_
          rw [s16_ix, s16_ix, s16_ix, s16_ix]
          have hfJ : fr sgH z (usJ (usJ (usJ (usJ y 54 (16 * i + i) (y.2.2 54 (16 * i + i) + x15.toInt64)) 54 (16 * j + j) ((usJ y 54 (16 * i + i) (y.2.2 54 (16 * i + i) + x15.toInt64)).2.2 54 (16 * j + j) + x15.toInt64)) 54 (16 * i + j) ((usJ (usJ y 54 (16 * i + i) (y.2.2 54 (16 * i + i) + x15.toInt64)) 54 (16 * j + j) ((usJ y 54 (16 * i + i) (y.2.2 54 (16 * i + i) + x15.toInt64)).2.2 54 (16 * j + j) + x15.toInt64)).2.2 54 (16 * i + j) - x15.toInt64)) 54 (16 * j + i) ((usJ (usJ (usJ y 54 (16 * i + i) (y.2.2 54 (16 * i + i) + x15.toInt64)) 54 (16 * j + j) ((usJ y 54 (16 * i + i) (y.2.2 54 (16 * i + i) + x15.toInt64)).2.2 54 (16 * j + j) + x15.toInt64)) 54 (16 * i + j) ((usJ (usJ y 54 (16 * i + i) (y.2.2 54 (16 * i + i) + x15.toInt64)) 54 (16 * j + j) ((usJ y 54 (16 * i + i) (y.2.2 54 (16 * i + i) + x15.toInt64)).2.2 54 (16 * j + j) + x15.toInt64)).2.2 54 (16 * i + j) - x15.toInt64)).2.2 54 (16 * j + i) - x15.toInt64)) := fr_J2 (fr_J2 (fr_J2 (fr_J2 hf (by unfold sgH; omega)) (by unfold sgH; omega)) (by unfold sgH; omega)) (by unfold sgH; omega)
          exact w_rdJ ml54 rfl (by omega) rfl (w_wrJ ml54 rfl (by omega) (w_rdJ ml54 rfl (by omega) rfl (w_wrJ ml54 rfl (by omega) (w_rdJ ml54 rfl (by omega) rfl (w_wrJ ml54 rfl (by omega) (w_rdJ ml54 rfl (by omega) rfl (w_wrJ ml54 rfl (by omega) (w_if (fun _ => w_if (fun _ => c9 _ _ _ _ _ _ _ _ _ _ _ _ _ hfJ hw) (fun _ => c9 _ _ _ _ _ _ _ _ _ _ _ _ _ hfJ hw)) (fun _ => c9 _ _ _ _ _ _ _ _ _ _ _ _ _ hfJ hw)))))))))
        have c7 : ∀ (x14 x15 : Int32) (f : Nat), f < 80 → Tt (fun K t => q_X13_signatureOf K t 7 (nI v0) (nI p) (nI k) x5 (nI o) x7 (nI u) (nI (mtf A u)) (nI fa) (nI fe) (nI fw) (nI fb) x14 x15 0 0 n (nI f) 0 y) Q := by
          intro x14 x15 f hf80
          obtain ⟨i, hi, ei⟩ := hw f hf80
          refine u_X13_signatureOf_7 ?_; unfold qm_X13_signatureOf_7
          exact w_rdI ml53 rfl hf80 ei (w_if (fun _ => c8 _ _ i fw hi hw0) (fun _ => c8 _ _ i fb hi hb))
        have c6 : ∀ (x14 t0 : Int32), Tt (fun K t => q_X13_signatureOf K t 6 (nI v0) (nI p) (nI k) x5 (nI o) x7 (nI u) (nI (mtf A u)) (nI fa) (nI fe) (nI fw) (nI fb) x14 0 0 0 n t0 0 y) Q := by
          intro x14 t0
          refine u_X13_signatureOf_6 ?_; unfold qm_X13_signatureOf_6
          exact w_if (fun _ => c7 _ _ fe he) (fun _ => c7 _ _ fa ha)
        have c5 : ∀ (t0 : Int32), Tt (fun K t => q_X13_signatureOf K t 5 (nI v0) (nI p) (nI k) x5 (nI o) x7 (nI u) (nI (mtf A u)) (nI fa) (nI fe) (nI fw) (nI fb) 0 0 0 0 n t0 0 y) Q := by
          intro t0
          refine u_X13_signatureOf_5 ?_; unfold qm_X13_signatureOf_5
          exact w_if (fun _ => c6 _ _) (fun _ => c6 _ _)
        refine u_X13_signatureOf_4 ?_; unfold qm_X13_signatureOf_4
        rw [show (2 : Int32) * nI u = nI (2 * u) from rn_mul2, show nI (2 * u) + 1 = nI (2 * u + 1) from nI_1 _]
        exact w_rdI (pl7 hn) rfl (by omega) (lk_m hd hO.1 hu) (w_rdI (pl14 hn) rfl (by omega) ea (w_rdI (pl14 hn) rfl (by omega) ee (w_rdI (pl10 hn) rfl (by omega) (lk_p hO.1 hu) (w_rdI (i := 2 * rn_pv A u) (pl14 hn) rn_mul2 (by omega) ew (w_rdI (pl10 hn) rfl (by omega) (lk_p hO.1 hmu) (w_rdI (i := 2 * rn_pv A (mtf A u)) (pl14 hn) rn_mul2 (by omega) eb (w_rdI ml52 rfl ha rfl (w_if (fun _ => c5 _) (fun _ => c5 _)))))))))
      have c3 : ∀ (t0 : Int32), Tt (fun K i => q_X13_signatureOf K i 3 (nI v0) (nI p) (nI k) x5 (nI o) 0 0 0 0 0 0 0 0 0 0 0 n t0 0 y) Q := by
        intro t0
        refine u_X13_signatureOf_3 ?_; unfold qm_X13_signatureOf_3
        exact w_if (fun _ => w_rdI (pl7 hn) rfl (by omega) (lk_m hd hO.1 hol) (c4 _ _ hml)) (fun _ => c4 _ _ hol)
      refine u_X13_signatureOf_2 ?_; unfold qm_X13_signatureOf_2
      exact w_rdF hO.1.V (w_leF (by omega) hol (w_rdI (pl5 hn) rfl (by omega) (lk_cu hO.1 hol).2 (w_if (fun _ => w_rdI (pl8 hn) rfl (by omega) (lk_c hO.1 hol) (w_rdI (pl12 hn) rfl (by omega) rfl (w_if (fun _ => w_rdI (pl4 hn) rfl (by omega) (lk_cu hO.1 hol).1 (w_rdI (pl6 hn) rfl (by omega) rfl (w_if (fun _ => c3 _) (fun _ => c3 _)))) (fun _ => c10 _ y hf hw)))) (fun _ => c10 _ y hf hw))))
  have c1 : ∀ (d i : Nat) (y : ow_MS), i + d = 256 → fr sgH z y → (∀ f, f < 80 → inR y 53 f 16) → Tt (fun K t => q_X13_signatureOf K t 1 (nI v0) (nI p) (nI k) (nI i) 0 0 0 0 0 0 0 0 0 0 0 0 n 0 0 y) Q := by
    intro d
    induction d with
    | zero =>
      intro i y hi hf hw
      refine u_X13_signatureOf_1 ?_; unfold qm_X13_signatureOf_1
      exact w_leT (a := 256) (by omega) (by omega) (c2 A.flatten.length 0 0 y (by omega) hf hw)
    | succ d ih =>
      intro i y hi hf hw
      refine u_X13_signatureOf_1 ?_; unfold qm_X13_signatureOf_1
      rw [nI_1]
      exact w_leF (a := 256) (by omega) (by omega) (w_wrJ ml54 rfl (by omega) (ih (i + 1) _ (by omega) (fr_J2 hf (by unfold sgH; omega)) hw))
  exact c1 256 0 z1 (by omega) hf1 w1
/-- row 53 is scratch that keeps its bounds -/
def X53a (X : (Nat → Nat → Int32) → Prop) : Prop := ∀ W, X W → ∀ f, f < 80 → ∃ i, i < 16 ∧ W 53 f = nI i
def X53b (X : (Nat → Nat → Int32) → Prop) : Prop := ∀ W W' : Nat → Nat → Int32, X W → (∀ g, g ≠ 53 → W' g = W g) → (∀ f, f < 80 → ∃ i, i < 16 ∧ W' 53 f = nI i) → X W'
theorem gI_53 {P : Nat → Prop} {z z1 : ow_MS} (hX : X53b X) (hf : fr P z z1) (hP : ∀ g, P g → g = 53 ∨ ¬ per g) (hr : ∀ f, f < 80 → inR z1 53 f 16) (h : gI X z) : gI X z1 := by
  obtain ⟨h1, h2, h3, h4, h5, h6, h7⟩ := h
  have no : ∀ g, per g → g ≠ 53 → ¬ P g := fun g hg hn h9 => (hP g h9).elim hn (fun h8 => h8 hg)
  refine ⟨gTape_fr hf (no 11 (by decide) (by decide)) h1, gRows_fr hf (no 12 (by decide) (by decide)) h2, gList_fr hf (no 20 (by decide) (by decide)) (no 21 (by decide) (by decide)) (no 22 (by decide) (by decide)) h3, gSum_fr hf (no 35 (by decide) (by decide)) (no 39 (by decide) (by decide)) (no 36 (by decide) (by decide)) h4, gCash_fr hf (no 43 (by decide) (by decide)) (no 45 (by decide) (by decide)) (no 50 (by decide) (by decide)) (no 65 (by decide) (by decide)) (no 67 (by decide) (by decide)) h5, gBrs_fr hf (no 94 (by decide) (by decide)) (no 95 (by decide) (by decide)) (no 96 (by decide) (by decide)) h6, hX _ _ h7 (fun g hg => ?_) (fun f hf80 => hr f hf80)⟩
  by_cases h9 : g = 53 ∨ 73 ≤ g ∧ g ≤ 76 ∨ 97 ≤ g ∧ g ≤ 105
  · show z1.2.1 (if _ then _ else _) = z.2.1 (if _ then _ else _)
    rw [if_pos h9]
    exact (hf g (no g (by unfold per; omega) hg)).2.1
  · show z1.2.1 (if _ then _ else _) = z.2.1 (if _ then _ else _)
    rw [if_neg h9]
    exact (hf 73 (no 73 (by decide) (by decide))).2.1
theorem e_X13_signature {x1 : Int32} {z : ow_MS} {Q : (Int32 × ow_MS) → Prop} (H : Tt (fun K k => q_X13_signature K k 0 x1 0 0 0 0 0 0 z) Q) : Te (fun K => qe_X13_signature K x1 z) Q := w_te H
theorem u_X13_signature_0 {x1 : Int32} {x2 : Int32} {x3 : Int32} {x4 : Int32} {x5 : Int32} {t0 : Int32} {t1 : Int32} {z : ow_MS} {Q : (Int32 × ow_MS) → Prop} (H : Tt (fun K k => qm_X13_signature_0 K (q_X13_signature K k) x1 x2 x3 x4 x5 t0 t1 z) Q) : Tt (fun K k => q_X13_signature K k 0 x1 x2 x3 x4 x5 t0 t1 z) Q := w_un (fun _ _ => rfl) H
theorem u_X13_signature_1 {x1 : Int32} {x2 : Int32} {x3 : Int32} {x4 : Int32} {x5 : Int32} {t0 : Int32} {t1 : Int32} {z : ow_MS} {Q : (Int32 × ow_MS) → Prop} (H : Tt (fun K k => qm_X13_signature_1 K (q_X13_signature K k) x1 x2 x3 x4 x5 t0 t1 z) Q) : Tt (fun K k => q_X13_signature K k 1 x1 x2 x3 x4 x5 t0 t1 z) Q := w_un (fun _ _ => rfl) H
theorem u_X13_signature_4 {x1 : Int32} {x2 : Int32} {x3 : Int32} {x4 : Int32} {x5 : Int32} {t0 : Int32} {t1 : Int32} {z : ow_MS} {Q : (Int32 × ow_MS) → Prop} (H : Tt (fun K k => qm_X13_signature_4 K (q_X13_signature K k) x1 x2 x3 x4 x5 t0 t1 z) Q) : Tt (fun K k => q_X13_signature K k 4 x1 x2 x3 x4 x5 t0 t1 z) Q := w_un (fun _ _ => rfl) H
theorem u_X13_signature_2 {x1 : Int32} {x2 : Int32} {x3 : Int32} {x4 : Int32} {x5 : Int32} {t0 : Int32} {t1 : Int32} {z : ow_MS} {Q : (Int32 × ow_MS) → Prop} (H : Tt (fun K k => qm_X13_signature_2 K (q_X13_signature K k) x1 x2 x3 x4 x5 t0 t1 z) Q) : Tt (fun K k => q_X13_signature K k 2 x1 x2 x3 x4 x5 t0 t1 z) Q := w_un (fun _ _ => rfl) H
theorem u_X13_signature_3 {x1 : Int32} {x2 : Int32} {x3 : Int32} {x4 : Int32} {x5 : Int32} {t0 : Int32} {t1 : Int32} {z : ow_MS} {Q : (Int32 × ow_MS) → Prop} (H : Tt (fun K k => qm_X13_signature_3 K (q_X13_signature K k) x1 x2 x3 x4 x5 t0 t1 z) Q) : Tt (fun K k => q_X13_signature K k 3 x1 x2 x3 x4 x5 t0 t1 z) Q := w_un (fun _ _ => rfl) H
theorem tp_signature {d : Int32} (hXa : X53a X) (hXb : X53b X) (h : gI X z) : Te (fun K => qe_X13_signature K d z) (fun r => gI X r.2) := by
  have h1 := gI_1 (c := 0) h
  refine e_X13_signature ?_
  refine u_X13_signature_0 ?_; unfold qm_X13_signature_0
  refine w_wrF (w_has h1.2.1 (w_ifT rfl (w_fail h1)) (fun e A sg he hx hv hne => w_ifF (by decide) ?_))
  subst hx
  refine w_cs0 (to_open pn1 he hv) (fun z2 ⟨o2, f2⟩ => ?_)
  have g2 : gI X z2 := gI_net pn1 f2 (fun g hg => by omega) h1
  have hl := o2.len
  have hC := o2.2.2.2
  have hd := wkF_ok o2.wk
  obtain ⟨c, hok, hc⟩ := o2.2.2.1
  refine w_cs0 (tn_split pn1 (by omega) (by omega) hd o2.1) (fun z3 ⟨f3, P, hP3⟩ => ?_)
  have o3 : oNet z3 1000 A sg := oNet_fr f3 (fun g hg => by unfold frP at hg; omega) o2
  have g3 : gI X z3 := gI_net pn1 f3 (fun g hg => by unfold frP at hg; omega) g2
  refine w_cs0 (tn_walk2 pn1 (by omega) hd o3.1 o3.2.1) (fun z4 ⟨f4, F, hF4, hw4⟩ => ?_)
  have o4 : oNet z4 1000 A sg := oNet_fr f4 (fun g hg => by unfold frW at hg; omega) o3
  have g4 : gI X z4 := gI_net pn1 f4 (fun g hg => by unfold frW at hg; omega) g3
  have hP4 : rn_pt z4 1000 A P := by
    unfold rn_pt
    rw [(f4 1013 (by unfold frW; omega)).1, (f4 1012 (by unfold frW; omega)).2.1]
    exact hP3
  have hI4 : fcI z4 1000 A sg F P := ⟨o4, hF4, hw4, hP4⟩
  have iF : ∀ {y : ow_MS}, fr sgH z4 y → fcI y 1000 A sg F P := fun hf => fcI_fr pn1 hf (fun g hg => by unfold sgH at hg; omega) hI4
  have gF : ∀ {y : ow_MS}, fr sgH z4 y → (∀ f, f < 80 → inR y 53 f 16) → gI X y := fun hf hw => gI_53 hXb hf (fun g hg => by
    by_cases h9 : g = 53
    · exact Or.inl h9
    · exact Or.inr (by unfold sgH at hg; unfold per; omega)) hw g4
  have c1 : ∀ (d p : Nat) (x2 : Int32) (y : ow_MS), p + d = P → fr sgH z4 y → (∀ f, f < 80 → inR y 53 f 16) → Tt (fun K i => q_X13_signature K i 1 (nI e) x2 (nI p) 0 0 0 0 y) (fun r => gI X r.2) := by
    intro d
    induction d with
    | zero =>
      intro p x2 y hp hf hw
      have hP := (iF hf).2.2.2.2.1
      refine u_X13_signature_1 ?_; unfold qm_X13_signature_1
      exact w_rdF (iF hf).2.2.2.1 (w_leT (by omega) (by omega) (w_some (gF hf hw)))
    | succ d ih =>
      intro p x2 y hp hf hw
      have hIy := iF hf
      have hP := hIy.2.2.2.2.1
      have c4 : ∀ (x4 x5 t0 : Int32) (y : ow_MS), fr sgH z4 y → (∀ f, f < 80 → inR y 53 f 16) → Tt (fun K i => q_X13_signature K i 4 (nI e) x2 (nI p) x4 x5 t0 x2 y) (fun r => gI X r.2) := by
        intro x4 x5 t0 y hf hw
        refine u_X13_signature_4 ?_; unfold qm_X13_signature_4
        rw [nI_1]
        exact ih (p + 1) _ y (by omega) hf hw
      have c2 : ∀ (d : Nat) (x4 : Int32), d ≤ A.flatten.length → (x4 = -1 ∨ ∃ v0, x4 = nI v0 ∧ inP A (y.2.1 1012) p v0) → Tt (fun K i => q_X13_signature K i 2 (nI e) x2 (nI p) x4 (iI ((d : Int) - 1)) 0 0 y) (fun r => gI X r.2) := by
        intro d
        induction d with
        | zero =>
          intro x4 _ h4
          refine u_X13_signature_2 ?_; unfold qm_X13_signature_2
          refine w_ifT (by show iI (-1) < iI 0; rw [iI_lt (by omega) (by omega) (by omega) (by omega)]; omega) (w_if (fun _ => c4 _ _ _ y hf hw) (fun n4 => ?_))
          rcases h4 with h4 | ⟨v0, rfl, hv0⟩
          · exact absurd h4 n4
          · refine w_cs1 (tp_sigOf pn1 hok hc hIy (by omega) hv0 hw) (fun a y1 ⟨f5, w5⟩ => c4 _ _ _ y1 (fr_tr hf f5) w5)
        | succ d ih2 =>
          intro x4 hd9 h4
          have e1 : iI (((d + 1 : Nat) : Int) - 1) = nI d := iI_nI (by omega)
          have e2 : nI d + (-1) = iI ((d : Int) - 1) := by
            rw [nI_iI]
            show iI (d : Int) + iI (-1) = _
            rw [iI_add]
            rfl
          have hdl : d < A.flatten.length := by omega
          have hcc := (rn_c_in A d hdl).1
          rw [e1]
          refine u_X13_signature_2 ?_; unfold qm_X13_signature_2
          refine w_ifF (fun h9 => absurd h9 (nI_pos (by omega))) (w_rdI (pl8 pn1) rfl (by omega) (lk_c hIy.1.1 hdl) (w_rdI (pl12 pn1) rfl (by omega) rfl (w_if (fun h9 => ?_) (fun _ => ?_))))
          · refine u_X13_signature_3 ?_; unfold qm_X13_signature_3
            rw [e2]
            exact ih2 _ (by omega) (Or.inr ⟨d, rfl, hdl, h9⟩)
          · refine u_X13_signature_3 ?_; unfold qm_X13_signature_3
            rw [e2]
            exact ih2 _ (by omega) h4
      refine u_X13_signature_1 ?_; unfold qm_X13_signature_1
      refine w_rdF hIy.2.2.2.1 (w_leF (by omega) (by omega) (w_rdF hIy.1.1.V ?_))
      rw [show nI A.flatten.length - 1 = iI ((A.flatten.length : Nat) - 1) from by rw [nI_iI]; exact iI_sub _ 1]
      exact c2 A.flatten.length (-1) (Nat.le_refl _) (Or.inl rfl)
  exact c1 P 0 0 z4 (by omega) fr_rf (fun f hf => hXa _ g4.2.2.2.2.2.2 f hf)
end SIG2
end
section
/-! 99zzzt.parts -/
/-! classes of ends: partitions by labels -/
/-- how many classes a label makes of the numbers below V -/
def cN (V : Nat) (L : Nat → Nat) : Nat := ((List.range V).filter (fun x => decide (∀ y, y < x → L y ≠ L x))).length
theorem cN_rep {V : Nat} {L : Nat → Nat} : ∀ x, x < V → ∃ r, r ∈ (List.range V).filter (fun x => decide (∀ y, y < x → L y ≠ L x)) ∧ L r = L x := by
  intro x
  induction x using Nat.strongRecOn with
  | ind x ih =>
  intro hx
  by_cases h : ∀ y, y < x → L y ≠ L x
  · exact ⟨x, List.mem_filter.mpr ⟨List.mem_range.mpr hx, decide_eq_true h⟩, rfl⟩
  · obtain ⟨y, hy⟩ := Classical.not_forall.mp h
    obtain ⟨hy1, hy2⟩ := Classical.not_imp.mp hy
    have hy2 : L y = L x := Classical.not_not.mp hy2
    obtain ⟨r, h1, h2⟩ := ih y hy1 (by omega)
    exact ⟨r, h1, h2.trans hy2⟩
theorem cN_dLe {V : Nat} {L : Nat → Nat} : dLe V L (cN V L) := by
  refine ⟨((List.range V).filter (fun x => decide (∀ y, y < x → L y ≠ L x))).map L, by rw [List.length_map]; exact Nat.le_refl _, fun x hx => ?_⟩
  obtain ⟨r, h1, h2⟩ := cN_rep (L := L) x hx
  rw [← h2]
  exact List.mem_map.mpr ⟨r, h1, rfl⟩
theorem cN_le {V k : Nat} {L : Nat → Nat} (h : dLe V L k) : cN V L ≤ k := by
  obtain ⟨R, h1, h2⟩ := h
  have hn : (((List.range V).filter (fun x => decide (∀ y, y < x → L y ≠ L x))).map L).Nodup := by
    refine nodup_map (List.nodup_range.filter _) (fun i j hi hj e => ?_)
    have hi := of_decide_eq_true (List.mem_filter.mp hi).2
    have hj := of_decide_eq_true (List.mem_filter.mp hj).2
    rcases Nat.lt_trichotomy i j with h9 | h9 | h9
    · exact absurd e (hj i h9)
    · exact h9
    · exact absurd e.symm (hi j h9)
  have := nodup_le _ R hn (fun a ha => by
    obtain ⟨x, hx, e⟩ := List.mem_map.mp ha
    rw [← e]
    exact h2 x (List.mem_range.mp (List.mem_filter.mp hx).1))
  rw [List.length_map] at this
  exact Nat.le_trans this h1
/-- a coarser label makes no more classes -/
theorem cN_mono {V : Nat} {L K : Nat → Nat} (h : ∀ x y, x < V → y < V → L x = L y → K x = K y) : cN V K ≤ cN V L := by
  refine cN_le ⟨((List.range V).filter (fun x => decide (∀ y, y < x → L y ≠ L x))).map K, by rw [List.length_map]; exact Nat.le_refl _, fun x hx => ?_⟩
  obtain ⟨r, h1, h2⟩ := cN_rep (L := L) x hx
  rw [← h r x (List.mem_range.mp (List.mem_filter.mp h1).1) hx h2]
  exact List.mem_map.mpr ⟨r, h1, rfl⟩
theorem cN_eq {V : Nat} {L K : Nat → Nat} (h : ∀ x y, x < V → y < V → (L x = L y ↔ K x = K y)) : cN V K = cN V L := Nat.le_antisymm (cN_mono (fun x y hx hy => (h x y hx hy).mp)) (cN_mono (fun x y hx hy => (h x y hx hy).mpr))
/-- two classes become one -/
theorem cN_mg {V a b : Nat} {L : Nat → Nat} (ha : a < V) (hb : b < V) (hne : L a ≠ L b) : cN V (fun x => if L x = L a then L b else L x) + 1 = cN V L := by
  have h1 : cN V L ≤ cN V (fun x => if L x = L a then L b else L x) + 1 := by
    obtain ⟨R, r1, r2⟩ := cN_dLe (V := V) (L := fun x => if L x = L a then L b else L x)
    refine cN_le ⟨L a :: R, by rw [List.length_cons]; omega, fun x hx => ?_⟩
    have := r2 x hx
    by_cases h9 : L x = L a
    · rw [h9]; exact List.mem_cons_self
    · have this : (if L x = L a then L b else L x) ∈ R := this
      rw [if_neg h9] at this
      exact List.mem_cons_of_mem _ this
  have h2 : cN V (fun x => if L x = L a then L b else L x) ≤ cN V L - 1 := by
    obtain ⟨R, r1, r2⟩ := cN_dLe (V := V) (L := L)
    have hm := r2 a ha
    refine cN_le ⟨R.erase (L a), by rw [List.length_erase_of_mem hm]; omega, fun x hx => ?_⟩
    show (if L x = L a then L b else L x) ∈ R.erase (L a)
    by_cases h9 : L x = L a
    · rw [if_pos h9]
      exact (List.mem_erase_of_ne (fun e => hne e.symm)).mpr (r2 b hb)
    · rw [if_neg h9]
      exact (List.mem_erase_of_ne h9).mpr (r2 x hx)
  have h3 : 0 < cN V L := by
    obtain ⟨r, k1, -⟩ := cN_rep (L := L) a ha
    exact List.length_pos_of_mem k1
  omega
/-- the label of a list of joins is the finest one -/
theorem mgL_min {K : Nat → Nat} : ∀ (E : List (Nat × Nat)) (L : Nat → Nat), (∀ x y, L x = L y → K x = K y) → (∀ a b, (a, b) ∈ E → K a = K b) → ∀ x y, mgL L E x = mgL L E y → K x = K y
  | [], L, h1, _, x, y, e => h1 x y e
  | (a, b) :: E, L, h1, h2, x, y, e => by
    have hab := h2 a b List.mem_cons_self
    refine mgL_min E (fun x => if L x = L a then L b else L x) (fun x y e => ?_) (fun a b h => h2 a b (List.mem_cons_of_mem _ h)) x y e
    have e : (if L x = L a then L b else L x) = if L y = L a then L b else L y := e
    by_cases hx : L x = L a
    · rw [if_pos hx] at e
      by_cases hy : L y = L a
      · exact h1 x y (hx.trans hy.symm)
      · rw [if_neg hy] at e
        rw [h1 x a hx, hab]
        exact h1 b y e
    · rw [if_neg hx] at e
      by_cases hy : L y = L a
      · rw [if_pos hy] at e
        rw [h1 y a hy, hab]
        exact h1 x b e
      · rw [if_neg hy] at e
        exact h1 x y e
/-! crossings with four ends, and modes: 0 nothing is joined, 1 along, 2 the other way, 3 both -/
section MODE
variable {A B C D : Nat → Nat} {c V : Nat}
abbrev En4 := (Nat → Nat) × (Nat → Nat) × (Nat → Nat) × (Nat → Nat)
def prs (q : En4) (x k : Nat) : List (Nat × Nat) := (if k = 1 ∨ k = 3 then [(q.1 x, q.2.2.2 x), (q.2.2.1 x, q.2.1 x)] else []) ++ if k = 2 ∨ k = 3 then [(q.1 x, q.2.2.1 x), (q.2.1 x, q.2.2.2 x)] else []
def eL (q : En4) (m : Nat → Nat) : Nat → List (Nat × Nat)
  | 0 => []
  | x + 1 => eL q m x ++ prs q x (m x)
def lab (q : En4) (c : Nat) (m : Nat → Nat) : Nat → Nat := mgL (fun x => x) (eL q m c)
def sat (q : En4) (c : Nat) (m K : Nat → Nat) : Prop := ∀ x, x < c → ((m x = 1 ∨ m x = 3) → K (q.1 x) = K (q.2.2.2 x) ∧ K (q.2.2.1 x) = K (q.2.1 x)) ∧ ((m x = 2 ∨ m x = 3) → K (q.1 x) = K (q.2.2.1 x) ∧ K (q.2.1 x) = K (q.2.2.2 x))
theorem eL_mem {q : En4} {m : Nat → Nat} {p : Nat × Nat} : ∀ {c : Nat}, p ∈ eL q m c ↔ ∃ x, x < c ∧ p ∈ prs q x (m x)
  | 0 => ⟨fun h => (by cases h), fun ⟨x, h, _⟩ => absurd h (by omega)⟩
  | c + 1 => by
    show p ∈ eL q m c ++ prs q c (m c) ↔ _
    rw [List.mem_append, eL_mem (c := c)]
    constructor
    · rintro (⟨x, h1, h2⟩ | h)
      · exact ⟨x, by omega, h2⟩
      · exact ⟨c, by omega, h⟩
    · rintro ⟨x, h1, h2⟩
      by_cases hx : x = c
      · rw [hx] at h2; exact Or.inr h2
      · exact Or.inl ⟨x, by omega, h2⟩
theorem lab_sat {q : En4} {m : Nat → Nat} : sat q c m (lab q c m) := by
  intro x hx
  have key : ∀ p, p ∈ prs q x (m x) → lab q c m p.1 = lab q c m p.2 := fun p hp => mgL_m _ _ p.1 p.2 (eL_mem.mpr ⟨x, hx, hp⟩)
  refine ⟨fun h => ?_, fun h => ?_⟩
  · have h1 := key (q.1 x, q.2.2.2 x) (by unfold prs; rw [if_pos h]; exact List.mem_append_left _ List.mem_cons_self)
    have h2 := key (q.2.2.1 x, q.2.1 x) (by unfold prs; rw [if_pos h]; exact List.mem_append_left _ (List.mem_cons_of_mem _ List.mem_cons_self))
    exact ⟨h1, h2⟩
  · have h1 := key (q.1 x, q.2.2.1 x) (by unfold prs; rw [if_pos h]; exact List.mem_append_right _ List.mem_cons_self)
    have h2 := key (q.2.1 x, q.2.2.2 x) (by unfold prs; rw [if_pos h]; exact List.mem_append_right _ (List.mem_cons_of_mem _ List.mem_cons_self))
    exact ⟨h1, h2⟩
theorem lab_min {q : En4} {m K : Nat → Nat} (h : sat q c m K) {x y : Nat} (e : lab q c m x = lab q c m y) : K x = K y := by
  refine mgL_min (K := K) (eL q m c) (fun x => x) (fun x y e => by rw [show x = y from e]) (fun a b hab => ?_) x y e
  obtain ⟨t, ht, hp⟩ := eL_mem.mp hab
  obtain ⟨s1, s2⟩ := h t ht
  unfold prs at hp
  rcases List.mem_append.mp hp with hp | hp
  · by_cases h9 : m t = 1 ∨ m t = 3
    · rw [if_pos h9] at hp
      rcases List.mem_cons.mp hp with hp | hp
      · obtain ⟨rfl, rfl⟩ := Prod.mk.inj hp
        exact (s1 h9).1
      · obtain ⟨rfl, rfl⟩ := Prod.mk.inj (List.mem_singleton.mp hp)
        exact (s1 h9).2
    · rw [if_neg h9] at hp
      cases hp
  · by_cases h9 : m t = 2 ∨ m t = 3
    · rw [if_pos h9] at hp
      rcases List.mem_cons.mp hp with hp | hp
      · obtain ⟨rfl, rfl⟩ := Prod.mk.inj hp
        exact (s2 h9).1
      · obtain ⟨rfl, rfl⟩ := Prod.mk.inj (List.mem_singleton.mp hp)
        exact (s2 h9).2
    · rw [if_neg h9] at hp
      cases hp
/-- the count of classes does not hang on how the joins are written -/
theorem lab_cN {q : En4} {m n : Nat → Nat} (h1 : sat q c m (lab q c n)) (h2 : sat q c n (lab q c m)) : cN V (lab q c m) = cN V (lab q c n) := cN_eq (fun x y _ _ => ⟨fun e => lab_min h2 e, fun e => lab_min h1 e⟩)
def upm (m : Nat → Nat) (j k : Nat) : Nat → Nat := fun x => if x = j then k else m x
/-- each label stands at an even number of ends -/
def evn (q : En4) (c : Nat) : Prop := ∀ (K : Nat → Nat) (j : Nat), j < c → (∀ x, x < c → x ≠ j → (K (q.1 x) = K (q.2.2.2 x) ∧ K (q.2.2.1 x) = K (q.2.1 x)) ∨ (K (q.1 x) = K (q.2.2.1 x) ∧ K (q.2.1 x) = K (q.2.2.2 x))) → (K (q.1 j) = K (q.2.1 j) ∧ K (q.2.2.1 j) = K (q.2.2.2 j)) ∨ (K (q.1 j) = K (q.2.2.1 j) ∧ K (q.2.1 j) = K (q.2.2.2 j)) ∨ (K (q.1 j) = K (q.2.2.2 j) ∧ K (q.2.1 j) = K (q.2.2.1 j))
def ends (q : En4) (c V : Nat) : Prop := ∀ x, x < c → q.1 x < V ∧ q.2.1 x < V ∧ q.2.2.1 x < V ∧ q.2.2.2 x < V
/-- all crossings but j are joined somehow -/
def full (c : Nat) (m : Nat → Nat) : Prop := ∀ x, x < c → m x = 1 ∨ m x = 2 ∨ m x = 3
theorem sat_up {q : En4} {m K : Nat → Nat} {j k : Nat} (hj : j < c) (h : sat q c (upm m j 0) K) (h1 : (k = 1 ∨ k = 3) → K (q.1 j) = K (q.2.2.2 j) ∧ K (q.2.2.1 j) = K (q.2.1 j)) (h2 : (k = 2 ∨ k = 3) → K (q.1 j) = K (q.2.2.1 j) ∧ K (q.2.1 j) = K (q.2.2.2 j)) : sat q c (upm m j k) K := by
  intro x hx
  by_cases hxj : x = j
  · rw [hxj]
    unfold upm
    rw [if_pos rfl]
    exact ⟨h1, h2⟩
  · have := h x hx
    unfold upm at this ⊢
    rw [if_neg hxj] at this ⊢
    exact this
theorem sat_dn {q : En4} {m K : Nat → Nat} {j k : Nat} (h : sat q c (upm m j k) K) : sat q c (upm m j 0) K := by
  intro x hx
  by_cases hxj : x = j
  · unfold upm
    rw [if_pos hxj]
    exact ⟨fun h9 => absurd h9 (by omega), fun h9 => absurd h9 (by omega)⟩
  · have := h x hx
    unfold upm at this ⊢
    rw [if_neg hxj] at this ⊢
    exact this
theorem upm_at {m : Nat → Nat} {j k : Nat} : upm m j k j = k := if_pos rfl
/-- three kinds of crossings: at an ordinary one both ways join as both together; at the others one way joins so, and the other one makes one class more, whatever the finer joins are -/
theorem kinds {q : En4} {m : Nat → Nat} {j : Nat} (hj : j < c) (hE : ends q c V) (hev : evn q c) (hm : full c m) : (cN V (lab q c (upm m j 1)) = cN V (lab q c (upm m j 3)) ∧ cN V (lab q c (upm m j 2)) = cN V (lab q c (upm m j 3))) ∨ (cN V (lab q c (upm m j 1)) = cN V (lab q c (upm m j 3)) ∧ ∀ n, full c n → (∀ K, sat q c (upm m j 0) K → sat q c (upm n j 0) K) → cN V (lab q c (upm n j 2)) = cN V (lab q c (upm n j 1)) + 1) ∨ (cN V (lab q c (upm m j 2)) = cN V (lab q c (upm m j 3)) ∧ ∀ n, full c n → (∀ K, sat q c (upm m j 0) K → sat q c (upm n j 0) K) → cN V (lab q c (upm n j 1)) = cN V (lab q c (upm n j 2)) + 1) := by
  have tri : ∀ (n : Nat → Nat), full c n → ∀ K, sat q c (upm n j 0) K → (K (q.1 j) = K (q.2.1 j) ∧ K (q.2.2.1 j) = K (q.2.2.2 j)) ∨ (K (q.1 j) = K (q.2.2.1 j) ∧ K (q.2.1 j) = K (q.2.2.2 j)) ∨ (K (q.1 j) = K (q.2.2.2 j) ∧ K (q.2.1 j) = K (q.2.2.1 j)) := by
    intro n hn K hK
    refine hev K j hj (fun x hx hxj => ?_)
    have h1 := hK x hx
    unfold upm at h1
    rw [if_neg hxj] at h1
    rcases hn x hx with h9 | h9 | h9
    · exact Or.inl (h1.1 (Or.inl h9))
    · exact Or.inr (h1.2 (Or.inl h9))
    · exact Or.inl (h1.1 (Or.inr h9))
  obtain ⟨eA, eB, eC, eD⟩ := hE j hj
  let R := lab q c (upm m j 0)
  -- what is joined in R is joined in all that is coarser
  have cor : ∀ {k : Nat} {x y : Nat}, R x = R y → lab q c (upm m j k) x = lab q c (upm m j k) y := fun e => lab_min (sat_dn lab_sat) e
  have w1 : ∀ {k : Nat}, lab q c (upm m j k) (q.1 j) = lab q c (upm m j k) (q.2.2.2 j) → lab q c (upm m j k) (q.2.2.1 j) = lab q c (upm m j k) (q.2.1 j) → lab q c (upm m j k) (q.1 j) = lab q c (upm m j k) (q.2.2.1 j) → lab q c (upm m j k) (q.2.1 j) = lab q c (upm m j k) (q.2.2.2 j) → cN V (lab q c (upm m j k)) = cN V (lab q c (upm m j 3)) ∨ k = 0 := by
    intro k g1 g2 g3 g4
    by_cases hk : k = 0
    · exact Or.inr hk
    · refine Or.inl (lab_cN (sat_up hj (sat_dn lab_sat) (fun _ => ?_) (fun _ => ?_)) (sat_up hj (sat_dn lab_sat) (fun _ => ⟨g1, g2⟩) (fun _ => ⟨g3, g4⟩)))
      · have := (lab_sat (q := q) (c := c) (m := upm m j 3) j hj).1 (by rw [upm_at]; exact Or.inr rfl)
        exact this
      · have := (lab_sat (q := q) (c := c) (m := upm m j 3) j hj).2 (by rw [upm_at]; exact Or.inr rfl)
        exact this
  have k1 := (lab_sat (q := q) (c := c) (m := upm m j 1) j hj).1 (by rw [upm_at]; exact Or.inl rfl)
  have k2 := (lab_sat (q := q) (c := c) (m := upm m j 2) j hj).2 (by rw [upm_at]; exact Or.inl rfl)
  -- one way adds nothing, the other one joins two classes
  have split : ∀ (n : Nat → Nat) (k k' : Nat), full c n → (k = 1 ∧ k' = 2 ∨ k = 2 ∧ k' = 1) → (k' = 2 → lab q c (upm n j 0) (q.1 j) = lab q c (upm n j 0) (q.2.2.1 j) ∧ lab q c (upm n j 0) (q.2.1 j) = lab q c (upm n j 0) (q.2.2.2 j)) → (k' = 1 → lab q c (upm n j 0) (q.1 j) = lab q c (upm n j 0) (q.2.2.2 j) ∧ lab q c (upm n j 0) (q.2.1 j) = lab q c (upm n j 0) (q.2.2.1 j)) → lab q c (upm n j 0) (q.1 j) ≠ lab q c (upm n j 0) (q.2.1 j) → cN V (lab q c (upm n j k')) = cN V (lab q c (upm n j k)) + 1 := by
    intro n k k' hn hk h2 h1 hne
    let R := lab q c (upm n j 0)
    have e1 : cN V (lab q c (upm n j k')) = cN V R := by
      refine lab_cN (sat_up hj (lab_sat (m := upm n j 0)) (fun h9 => ?_) (fun h9 => ?_)) (sat_dn lab_sat)
      · have : k' = 1 := by omega
        exact ⟨(h1 this).1, (h1 this).2.symm⟩
      · have : k' = 2 := by omega
        exact h2 this
    have e2 : cN V (lab q c (upm n j k)) + 1 = cN V R := by
      rw [← cN_mg (L := R) eA eB hne]
      congr 1
      have s1 : sat q c (upm n j k) (fun x => if R x = R (q.1 j) then R (q.2.1 j) else R x) := by
        refine sat_up hj (fun x hx => ?_) (fun h9 => ?_) (fun h9 => ?_)
        · obtain ⟨s1, s2⟩ := lab_sat (q := q) (c := c) (m := upm n j 0) x hx
          have s1 : _ → R (q.1 x) = R (q.2.2.2 x) ∧ R (q.2.2.1 x) = R (q.2.1 x) := s1
          have s2 : _ → R (q.1 x) = R (q.2.2.1 x) ∧ R (q.2.1 x) = R (q.2.2.2 x) := s2
          refine ⟨fun h9 => ?_, fun h9 => ?_⟩
          · show (if R (q.1 x) = _ then _ else _) = (if R (q.2.2.2 x) = _ then _ else _) ∧ (if R (q.2.2.1 x) = _ then _ else _) = if R (q.2.1 x) = _ then _ else _
            rw [(s1 h9).1, (s1 h9).2]
            exact ⟨rfl, rfl⟩
          · show (if R (q.1 x) = _ then _ else _) = (if R (q.2.2.1 x) = _ then _ else _) ∧ (if R (q.2.1 x) = _ then _ else _) = if R (q.2.2.2 x) = _ then _ else _
            rw [(s2 h9).1, (s2 h9).2]
            exact ⟨rfl, rfl⟩
        · have hk1 : k = 1 := by omega
          have hk2 : k' = 2 := by omega
          obtain ⟨g1, g2⟩ := h2 hk2
          have g1 : R (q.1 j) = R (q.2.2.1 j) := g1
          have g2 : R (q.2.1 j) = R (q.2.2.2 j) := g2
          show (if R (q.1 j) = R (q.1 j) then R (q.2.1 j) else _) = (if R (q.2.2.2 j) = R (q.1 j) then R (q.2.1 j) else R (q.2.2.2 j)) ∧ (if R (q.2.2.1 j) = R (q.1 j) then R (q.2.1 j) else _) = if R (q.2.1 j) = R (q.1 j) then R (q.2.1 j) else R (q.2.1 j)
          rw [if_pos rfl, if_pos g1.symm, ← g2]
          constructor <;> split <;> rfl
        · have hk1 : k = 2 := by omega
          have hk2 : k' = 1 := by omega
          obtain ⟨g1, g2⟩ := h1 hk2
          have g1 : R (q.1 j) = R (q.2.2.2 j) := g1
          have g2 : R (q.2.1 j) = R (q.2.2.1 j) := g2
          show (if R (q.1 j) = R (q.1 j) then R (q.2.1 j) else _) = (if R (q.2.2.1 j) = R (q.1 j) then R (q.2.1 j) else R (q.2.2.1 j)) ∧ (if R (q.2.1 j) = R (q.1 j) then R (q.2.1 j) else R (q.2.1 j)) = if R (q.2.2.2 j) = R (q.1 j) then R (q.2.1 j) else R (q.2.2.2 j)
          rw [if_pos rfl, if_pos g1.symm, ← g2]
          constructor <;> split <;> rfl
      refine cN_eq (fun x y _ _ => ⟨fun e => ?_, fun e => ?_⟩)
      · -- the merged label is not finer than that of the joins
        have hR : ∀ a b, R a = R b → lab q c (upm n j k) a = lab q c (upm n j k) b := fun a b e => lab_min (sat_dn lab_sat) e
        have hAB : lab q c (upm n j k) (q.1 j) = lab q c (upm n j k) (q.2.1 j) := by
          rcases hk with ⟨rfl, rfl⟩ | ⟨rfl, rfl⟩
          · have := (lab_sat (q := q) (c := c) (m := upm n j 1) j hj).1 (by rw [upm_at]; exact Or.inl rfl)
            rw [this.1]
            exact (hR _ _ (h2 rfl).2).symm
          · have := (lab_sat (q := q) (c := c) (m := upm n j 2) j hj).2 (by rw [upm_at]; exact Or.inl rfl)
            rw [this.1]
            exact (hR _ _ (h1 rfl).2).symm
        have e : (if R x = R (q.1 j) then R (q.2.1 j) else R x) = if R y = R (q.1 j) then R (q.2.1 j) else R y := e
        by_cases hx : R x = R (q.1 j)
        · rw [if_pos hx] at e
          by_cases hy : R y = R (q.1 j)
          · exact hR _ _ (hx.trans hy.symm)
          · rw [if_neg hy] at e
            rw [hR _ _ hx, hAB]
            exact hR _ _ e
        · rw [if_neg hx] at e
          by_cases hy : R y = R (q.1 j)
          · rw [if_pos hy] at e
            rw [hR _ _ hy, hAB]
            exact hR _ _ e
          · rw [if_neg hy] at e
            exact hR _ _ e
      · exact lab_min s1 e
    omega
  -- what a finer label says, if the coarse one parts the two sides
  have fine : ∀ n, full c n → (∀ K, sat q c (upm m j 0) K → sat q c (upm n j 0) K) → R (q.1 j) ≠ R (q.2.1 j) → ∀ {x y}, lab q c (upm n j 0) x = lab q c (upm n j 0) y → R x = R y := fun n hn hf hne x y e => lab_min (hf R lab_sat) e
  by_cases hab : R (q.1 j) = R (q.2.1 j)
  · -- ordinary
    have hcd : R (q.2.2.1 j) = R (q.2.2.2 j) := by
      rcases tri m hm R lab_sat with ⟨-, h⟩ | ⟨h1, h2⟩ | ⟨h1, h2⟩
      · exact h
      · rw [← h1, hab, h2]
      · rw [← h1, hab, h2]
    refine Or.inl ⟨?_, ?_⟩
    · have a1 := cor (k := 1) hab
      have a2 := cor (k := 1) hcd
      exact (w1 k1.1 k1.2 (by rw [k1.1, ← a2]) (by rw [← a1, k1.1])).resolve_right (by omega)
    · have a1 := cor (k := 2) hab
      have a2 := cor (k := 2) hcd
      exact (w1 (by rw [a1, k2.2]) (by rw [a2, ← k2.2]) k2.1 k2.2).resolve_right (by omega)
  · rcases tri m hm R lab_sat with ⟨h, -⟩ | ⟨h1, h2⟩ | ⟨h1, h2⟩
    · exact absurd h hab
    · refine Or.inr (Or.inl ⟨(w1 k1.1 k1.2 (cor h1) (cor h2)).resolve_right (by omega), fun n hn hf => ?_⟩)
      have hf9 : ∀ {x y : Nat}, lab q c (upm n j 0) x = lab q c (upm n j 0) y → R x = R y := fun e => fine n hn hf hab e
      have hne : lab q c (upm n j 0) (q.1 j) ≠ lab q c (upm n j 0) (q.2.1 j) := fun e => hab (hf9 e)
      refine split n 1 2 hn (Or.inl ⟨rfl, rfl⟩) (fun _ => ?_) (fun h => absurd h (by omega)) hne
      rcases tri n hn _ lab_sat with ⟨h, -⟩ | h | ⟨h, -⟩
      · exact absurd h hne
      · exact h
      · exact absurd ((hf9 h).trans h2.symm) hab
    · refine Or.inr (Or.inr ⟨(w1 (cor h1) (cor h2).symm k2.1 k2.2).resolve_right (by omega), fun n hn hf => ?_⟩)
      have hf9 : ∀ {x y : Nat}, lab q c (upm n j 0) x = lab q c (upm n j 0) y → R x = R y := fun e => fine n hn hf hab e
      have hne : lab q c (upm n j 0) (q.1 j) ≠ lab q c (upm n j 0) (q.2.1 j) := fun e => hab (hf9 e)
      refine split n 2 1 hn (Or.inr ⟨rfl, rfl⟩) (fun h => absurd h (by omega)) (fun _ => ?_) hne
      rcases tri n hn _ lab_sat with ⟨h, -⟩ | ⟨h, -⟩ | h
      · exact absurd h hne
      · exact absurd ((hf9 h).trans h2.symm) hab
      · exact h
end MODE
end
section
/-! 99zzzu.count -/
/-! how many generators there are -/
theorem pcF_hi : ∀ (n j i : Nat), j < n → i < 2 ^ j → pcF n (2 ^ j + i) = pcF n i + 1
  | 0, j, i, h, _ => by omega
  | n + 1, 0, i, _, hi => by
    have hi : i = 0 := by simpa using hi
    subst hi
    show (2 ^ 0 + 0) % 2 + pcF n ((2 ^ 0 + 0) / 2) = 0 % 2 + pcF n (0 / 2) + 1
    rw [show (2 ^ 0 + 0) / 2 = 0 / 2 from rfl, show (2 ^ 0 + 0) % 2 = 1 from rfl]
    omega
  | n + 1, j + 1, i, h, hi => by
    have e : 2 ^ (j + 1) = 2 * 2 ^ j := by rw [Nat.pow_succ]; omega
    have := pcF_hi n j (i / 2) (by omega) (by omega)
    show (2 ^ (j + 1) + i) % 2 + pcF n ((2 ^ (j + 1) + i) / 2) = i % 2 + pcF n (i / 2) + 1
    rw [show (2 ^ (j + 1) + i) % 2 = i % 2 by omega, show (2 ^ (j + 1) + i) / 2 = 2 ^ j + i / 2 by omega, this]
    omega
theorem pc_hi {j i : Nat} (hj : j < 32) (hi : i < 2 ^ j) : pc (2 ^ j + i) = pc i + 1 := pcF_hi 32 j i hj hi
/-- sums over the states below n with h ones -/
def smH (w : Nat → Nat) (h t : Nat) : Nat → Nat
  | 0 => 0
  | n + 1 => smH w h t n + if pc n = h then w (t + n) else 0
def lm0 (w : Nat → Nat) : Nat → Nat → Nat → Nat
  | 0, t, h => if h = 0 then w t else 0
  | j + 1, t, h => lm0 w j t h + if h = 0 then 0 else lm0 w j (t + 2 ^ j) (h - 1)
theorem smH_hi {w : Nat → Nat} {h t j : Nat} (hj : j < 32) : ∀ i, i ≤ 2 ^ j → smH w h t (2 ^ j + i) = smH w h t (2 ^ j) + if h = 0 then 0 else smH w (h - 1) (t + 2 ^ j) i
  | 0, _ => by
    show _ = _ + if h = 0 then 0 else 0
    split <;> rfl
  | i + 1, hi => by
    have ih := smH_hi (w := w) (h := h) (t := t) hj i (by omega)
    show smH w h t (2 ^ j + i) + (if pc (2 ^ j + i) = h then w (t + (2 ^ j + i)) else 0) = _
    rw [ih, pc_hi hj (by omega)]
    by_cases h0 : h = 0
    · rw [if_pos h0, if_pos h0, if_neg (by omega)]
    · rw [if_neg h0, if_neg h0]
      show _ = _ + (smH w (h - 1) (t + 2 ^ j) i + if pc i = h - 1 then w (t + 2 ^ j + i) else 0)
      rw [show t + (2 ^ j + i) = t + 2 ^ j + i by omega]
      by_cases h1 : pc i + 1 = h
      · rw [if_pos h1, if_pos (by omega)]; omega
      · rw [if_neg h1, if_neg (by omega)]; omega
theorem smH_lm {w : Nat → Nat} : ∀ (j t h : Nat), j < 32 → smH w h t (2 ^ j) = lm0 w j t h
  | 0, t, h, _ => by
    show 0 + (if pc 0 = h then w (t + 0) else 0) = if h = 0 then w t else 0
    rw [show pc 0 = 0 from by decide]
    by_cases h0 : h = 0
    · rw [if_pos h0, if_pos h0.symm, Nat.add_zero, Nat.zero_add]
    · rw [if_neg h0, if_neg (fun e => h0 e.symm)]
  | j + 1, t, h, hj => by
    have e : 2 ^ (j + 1) = 2 ^ j + 2 ^ j := by rw [Nat.pow_succ]; omega
    rw [e, smH_hi (by omega) _ (Nat.le_refl _), smH_lm j t h (by omega)]
    show _ = lm0 w j t h + if h = 0 then 0 else lm0 w j (t + 2 ^ j) (h - 1)
    by_cases h0 : h = 0
    · rw [if_pos h0, if_pos h0]
    · rw [if_neg h0, if_neg h0, smH_lm j _ _ (by omega)]
/-- sums over all states below n -/
def smA (w : Nat → Nat) (t : Nat) : Nat → Nat
  | 0 => 0
  | n + 1 => smA w t n + w (t + n)
theorem smA_add {w : Nat → Nat} {t n : Nat} : ∀ i, smA w t (n + i) = smA w t n + smA w (t + n) i
  | 0 => rfl
  | i + 1 => by
    have ih := smA_add (w := w) (t := t) (n := n) i
    show smA w t (n + i) + w (t + (n + i)) = smA w t n + (smA w (t + n) i + w (t + n + i))
    rw [ih, show t + (n + i) = t + n + i by omega]
    omega
theorem smA_eq {w u : Nat → Nat} {t s : Nat} : ∀ n, (∀ i, i < n → w (t + i) = u (s + i)) → smA w t n = smA u s n
  | 0, _ => rfl
  | n + 1, h => by
    show smA w t n + w (t + n) = smA u s n + u (s + n)
    rw [smA_eq n (fun i hi => h i (by omega)), h n (by omega)]
theorem smA_mul {w : Nat → Nat} {t k : Nat} : ∀ n, smA (fun s => k * w s) t n = k * smA w t n
  | 0 => rfl
  | n + 1 => by
    show smA (fun s => k * w s) t n + k * w (t + n) = k * (smA w t n + w (t + n))
    rw [smA_mul n, Nat.mul_add]
theorem smA_mono {w : Nat → Nat} {t a : Nat} : ∀ b, a ≤ b → smA w t a ≤ smA w t b
  | 0, h => by rw [show a = 0 by omega]; exact Nat.le_refl _
  | b + 1, h => by
    by_cases e : a = b + 1
    · rw [e]; exact Nat.le_refl _
    · have := smA_mono (w := w) (t := t) (a := a) b (by omega)
      show smA w t a ≤ smA w t b + _
      omega
/-! states and modes -/
def btN (s x : Nat) : Nat := s / 2 ^ x % 2
def mB (w : Bool) (b : Nat) : Nat := if decide (b = 1) = w then 1 else 2
theorem mB_1 {w : Bool} {b : Nat} : mB w b = 1 ∨ mB w b = 2 := by
  unfold mB
  split
  · exact Or.inl rfl
  · exact Or.inr rfl
def mdS (ab : Nat → Bool) (j t x : Nat) : Nat := if x < j then 3 else mB (ab x) (btN t x)
theorem bt_hi {j t r x : Nat} (ht : t % 2 ^ j = 0) (hr : r < 2 ^ j) (hx : j ≤ x) : btN (t + r) x = btN t x := by
  unfold btN
  obtain ⟨u, hu⟩ : ∃ u, t = 2 ^ j * u := ⟨t / 2 ^ j, by have := Nat.div_add_mod t (2 ^ j); omega⟩
  obtain ⟨y, rfl⟩ : ∃ y, x = j + y := ⟨x - j, by omega⟩
  have h1 : (t + r) / 2 ^ (j + y) = t / 2 ^ (j + y) := by
    rw [Nat.pow_add, ← Nat.div_div_eq_div_mul, ← Nat.div_div_eq_div_mul, hu, Nat.mul_add_div (Nat.two_pow_pos j), Nat.div_eq_of_lt hr, Nat.mul_div_cancel_left u (Nat.two_pow_pos j), Nat.add_zero]
  rw [h1]
theorem bt_j {j t r : Nat} (ht : t % 2 ^ (j + 1) = 0) (hr : r < 2 ^ j) : btN (t + r) j = 0 ∧ btN (t + 2 ^ j + r) j = 1 := by
  have e : 2 ^ (j + 1) = 2 * 2 ^ j := by rw [Nat.pow_succ]; omega
  rw [e] at ht
  have hp := Nat.two_pow_pos j
  obtain ⟨u, hu⟩ : ∃ u, t = 2 ^ j * (2 * u) := ⟨t / (2 * 2 ^ j), by
    have := Nat.div_add_mod t (2 * 2 ^ j)
    rw [ht] at this
    rw [← Nat.mul_assoc, Nat.mul_comm (2 ^ j) 2]
    omega⟩
  unfold btN
  constructor
  · rw [hu, Nat.mul_add_div hp, Nat.div_eq_of_lt hr]
    omega
  · rw [hu, show 2 ^ j * (2 * u) + 2 ^ j + r = 2 ^ j * (2 * u + 1) + r by rw [Nat.mul_add]; omega, Nat.mul_add_div hp, Nat.div_eq_of_lt hr]
    omega
section CNT
variable {q : En4} {c V e : Nat} {ab : Nat → Bool}
theorem mdS_full {j t : Nat} : full c (mdS ab j t) := by
  intro x _
  unfold mdS
  split
  · exact Or.inr (Or.inr rfl)
  · rcases mB_1 (w := ab x) (b := btN t x) with h | h
    · exact Or.inl h
    · exact Or.inr (Or.inl h)
/-- the loops of a state -/
def ell (q : En4) (c V : Nat) (ab : Nat → Bool) (t : Nat) : Nat := cN V (lab q c (mdS ab 0 t))
def ell2 (q : En4) (c V : Nat) (ab : Nat → Bool) (j t : Nat) : Nat := cN V (lab q c (mdS ab j t))
/-- at each crossing one of three things is so -/
theorem kinds2 {j t : Nat} (hj : j < c) (hE : ends q c V) (hev : evn q c) (ht : t % 2 ^ (j + 1) = 0) : (ell2 q c V ab j t = ell2 q c V ab (j + 1) t ∧ ell2 q c V ab j (t + 2 ^ j) = ell2 q c V ab (j + 1) t) ∨ (ell2 q c V ab j t = ell2 q c V ab (j + 1) t ∧ ∀ r, r < 2 ^ j → ell q c V ab (t + 2 ^ j + r) = ell q c V ab (t + r) + 1) ∨ (ell2 q c V ab j (t + 2 ^ j) = ell2 q c V ab (j + 1) t ∧ ∀ r, r < 2 ^ j → ell q c V ab (t + r) = ell q c V ab (t + 2 ^ j + r) + 1) := by
  have ht2 : t % 2 ^ j = 0 := by
    rw [Nat.pow_succ] at ht
    have h1 : t % (2 ^ j * 2) % 2 ^ j = t % 2 ^ j := Nat.mod_mul_right_mod t (2 ^ j) 2
    rw [ht, Nat.zero_mod] at h1
    exact h1.symm
  have hpj := Nat.two_pow_pos j
  have e2j : 2 ^ (j + 1) = 2 ^ j + 2 ^ j := by rw [Nat.pow_succ]; omega
  -- the modes in terms of one crossing
  have m3 : upm (mdS ab (j + 1) t) j 3 = mdS ab (j + 1) t := by
    funext x
    unfold upm mdS
    by_cases hx : x = j
    · rw [if_pos hx, if_pos (by omega)]
    · rw [if_neg hx]
  have m0 : mdS ab j t = upm (mdS ab (j + 1) t) j (mB (ab j) 0) := by
    funext x
    unfold upm mdS
    by_cases hx : x = j
    · rw [if_pos hx, hx, if_neg (by omega), show btN t j = 0 from (bt_j (r := 0) ht hpj).1]
    · rw [if_neg hx]
      by_cases hlt : x < j
      · rw [if_pos hlt, if_pos (by omega)]
      · rw [if_neg hlt, if_neg (by omega)]
  have m1 : mdS ab j (t + 2 ^ j) = upm (mdS ab (j + 1) t) j (mB (ab j) 1) := by
    funext x
    unfold upm mdS
    by_cases hx : x = j
    · rw [if_pos hx, hx, if_neg (by omega), show btN (t + 2 ^ j) j = 1 from (bt_j (r := 0) ht hpj).2]
    · rw [if_neg hx]
      by_cases hlt : x < j
      · rw [if_pos hlt, if_pos (by omega)]
      · rw [if_neg hlt, if_neg (by omega), bt_hi ht (by omega) (by omega)]
  have n0 : ∀ r, r < 2 ^ j → mdS ab 0 (t + r) = upm (mdS ab 0 (t + r)) j (mB (ab j) 0) := by
    intro r hr
    funext x
    unfold upm
    by_cases hx : x = j
    · rw [if_pos hx]
      unfold mdS
      rw [hx, if_neg (by omega), (bt_j ht hr).1]
    · rw [if_neg hx]
  have n1 : ∀ r, r < 2 ^ j → mdS ab 0 (t + 2 ^ j + r) = upm (mdS ab 0 (t + r)) j (mB (ab j) 1) := by
    intro r hr
    funext x
    unfold upm
    by_cases hx : x = j
    · rw [if_pos hx]
      unfold mdS
      rw [hx, if_neg (by omega), (bt_j ht hr).2]
    · rw [if_neg hx]
      unfold mdS
      rw [if_neg (by omega), if_neg (by omega)]
      congr 1
      by_cases hlt : x < j
      · -- a lower bit: 2 ^ j does not reach it
        have h1 : btN (t + 2 ^ j + r) x = btN r x := by
          unfold btN
          obtain ⟨y, rfl⟩ : ∃ y, j = x + 1 + y := ⟨j - x - 1, by omega⟩
          obtain ⟨u, hu⟩ : ∃ u, t = 2 ^ (x + 1 + y) * u := ⟨t / 2 ^ (x + 1 + y), by have := Nat.div_add_mod t (2 ^ (x + 1 + y)); omega⟩
          have e1 : 2 ^ (x + 1 + y) = 2 ^ x * (2 * 2 ^ y) := by rw [Nat.pow_add, Nat.pow_succ, Nat.mul_assoc]
          rw [hu, e1, show 2 ^ x * (2 * 2 ^ y) * u + 2 ^ x * (2 * 2 ^ y) + r = 2 ^ x * (2 * (2 ^ y * u + 2 ^ y)) + r by rw [Nat.mul_add 2, Nat.mul_add (2 ^ x), Nat.mul_assoc, Nat.mul_assoc], Nat.mul_add_div (Nat.two_pow_pos x)]
          omega
        have h2 : btN (t + r) x = btN r x := by
          unfold btN
          obtain ⟨y, rfl⟩ : ∃ y, j = x + 1 + y := ⟨j - x - 1, by omega⟩
          obtain ⟨u, hu⟩ : ∃ u, t = 2 ^ (x + 1 + y) * u := ⟨t / 2 ^ (x + 1 + y), by have := Nat.div_add_mod t (2 ^ (x + 1 + y)); omega⟩
          have e1 : 2 ^ (x + 1 + y) = 2 ^ x * (2 * 2 ^ y) := by rw [Nat.pow_add, Nat.pow_succ, Nat.mul_assoc]
          rw [hu, e1, show 2 ^ x * (2 * 2 ^ y) * u + r = 2 ^ x * (2 * (2 ^ y * u)) + r by rw [Nat.mul_assoc, Nat.mul_assoc], Nat.mul_add_div (Nat.two_pow_pos x)]
          omega
        rw [h1, h2]
      · rw [Nat.add_assoc, bt_hi ht (show 2 ^ j + r < 2 ^ (j + 1) by omega) (by omega), bt_hi ht (show r < 2 ^ (j + 1) by omega) (by omega)]
  have fin : ∀ r, r < 2 ^ j → ∀ K, sat q c (upm (mdS ab (j + 1) t) j 0) K → sat q c (upm (mdS ab 0 (t + r)) j 0) K := by
    intro r hr K hK x hx
    have h1 := hK x hx
    unfold upm at h1 ⊢
    by_cases hxj : x = j
    · rw [if_pos hxj] at h1 ⊢
      exact h1
    · rw [if_neg hxj] at h1 ⊢
      unfold mdS at h1 ⊢
      rw [if_neg (show ¬ x < 0 by omega)]
      by_cases hlt : x < j
      · rw [if_pos (by omega)] at h1
        exact ⟨fun _ => h1.1 (Or.inr rfl), fun _ => h1.2 (Or.inr rfl)⟩
      · rw [if_neg (by omega)] at h1
        rw [bt_hi ht (show r < 2 ^ (j + 1) by omega) (by omega)]
        exact h1
  unfold ell2 ell
  rw [m0, m1]
  have hk := kinds (V := V) hj hE hev (mdS_full (ab := ab) (j := j + 1) (t := t))
  rw [m3] at hk
  have two : (mB (ab j) 0 = 1 ∧ mB (ab j) 1 = 2) ∨ (mB (ab j) 0 = 2 ∧ mB (ab j) 1 = 1) := by
    cases ab j
    · exact Or.inl ⟨rfl, rfl⟩
    · exact Or.inr ⟨rfl, rfl⟩
  rcases two with ⟨t0, t1⟩ | ⟨t0, t1⟩
  · rw [t0, t1]
    rw [t0] at n0
    rw [t1] at n1
    rcases hk with ⟨h1, h2⟩ | ⟨h1, h2⟩ | ⟨h1, h2⟩
    · exact Or.inl ⟨h1, h2⟩
    · refine Or.inr (Or.inl ⟨h1, fun r hr => ?_⟩)
      rw [n1 r hr, n0 r hr]
      have := h2 _ mdS_full (fin r hr)
      rw [← n0 r hr] at this ⊢
      exact this
    · refine Or.inr (Or.inr ⟨h1, fun r hr => ?_⟩)
      rw [n1 r hr, n0 r hr]
      have := h2 _ mdS_full (fin r hr)
      rw [← n0 r hr] at this ⊢
      exact this
  · rw [t0, t1]
    rw [t0] at n0
    rw [t1] at n1
    rcases hk with ⟨h1, h2⟩ | ⟨h1, h2⟩ | ⟨h1, h2⟩
    · exact Or.inl ⟨h2, h1⟩
    · refine Or.inr (Or.inr ⟨h1, fun r hr => ?_⟩)
      rw [n1 r hr, n0 r hr]
      have := h2 _ mdS_full (fin r hr)
      rw [← n0 r hr] at this ⊢
      exact this
    · refine Or.inr (Or.inl ⟨h1, fun r hr => ?_⟩)
      rw [n1 r hr, n0 r hr]
      have := h2 _ mdS_full (fin r hr)
      rw [← n0 r hr] at this ⊢
      exact this
theorem md_pow {j t : Nat} (ht : t % 2 ^ (j + 1) = 0) : t % 2 ^ j = 0 ∧ (t + 2 ^ j) % 2 ^ j = 0 := by
  have ht2 : t % 2 ^ j = 0 := by
    rw [Nat.pow_succ] at ht
    have h1 : t % (2 ^ j * 2) % 2 ^ j = t % 2 ^ j := Nat.mod_mul_right_mod t (2 ^ j) 2
    rw [ht, Nat.zero_mod] at h1
    exact h1.symm
  exact ⟨ht2, by rw [Nat.add_mod_right]; exact ht2⟩
/-- all generators -/
theorem gen_all (hE : ends q c V) (hev : evn q c) : ∀ (j t : Nat), j ≤ c → t % 2 ^ j = 0 → smA (fun s => 2 ^ (ell q c V ab s + e)) t (2 ^ j) ≤ 3 ^ j * 2 ^ (ell2 q c V ab j t + e)
  | 0, t, _, _ => by
    show 0 + 2 ^ (ell q c V ab (t + 0) + e) ≤ 1 * 2 ^ (ell2 q c V ab 0 t + e)
    rw [Nat.add_zero, Nat.zero_add, Nat.one_mul]
    exact Nat.le_refl _
  | j + 1, t, hj, ht => by
    obtain ⟨p1, p2⟩ := md_pow ht
    have i1 := gen_all hE hev j t (by omega) p1
    have i2 := gen_all hE hev j (t + 2 ^ j) (by omega) p2
    have e2 : 2 ^ (j + 1) = 2 ^ j + 2 ^ j := by rw [Nat.pow_succ]; omega
    rw [e2, smA_add, Nat.pow_succ]
    generalize hG : 3 ^ j * 2 ^ (ell2 q c V ab (j + 1) t + e) = G
    rw [show 3 ^ j * 3 * 2 ^ (ell2 q c V ab (j + 1) t + e) = 3 * G by rw [← hG, Nat.mul_comm (3 ^ j) 3, Nat.mul_assoc]]
    rcases kinds2 (ab := ab) (by omega) hE hev ht with ⟨h1, h2⟩ | ⟨h1, h2⟩ | ⟨h1, h2⟩
    · rw [h1, hG] at i1
      rw [h2, hG] at i2
      omega
    · rw [h1, hG] at i1
      have : smA (fun s => 2 ^ (ell q c V ab s + e)) (t + 2 ^ j) (2 ^ j) = smA (fun s => 2 * 2 ^ (ell q c V ab s + e)) t (2 ^ j) := smA_eq _ (fun r hr => by
        show 2 ^ (ell q c V ab (t + 2 ^ j + r) + e) = 2 * 2 ^ (ell q c V ab (t + r) + e)
        rw [h2 r hr, show ell q c V ab (t + r) + 1 + e = ell q c V ab (t + r) + e + 1 by omega, Nat.pow_succ]
        omega)
      rw [this, smA_mul]
      omega
    · rw [h1, hG] at i2
      have : smA (fun s => 2 ^ (ell q c V ab s + e)) t (2 ^ j) = smA (fun s => 2 * 2 ^ (ell q c V ab s + e)) (t + 2 ^ j) (2 ^ j) := smA_eq _ (fun r hr => by
        show 2 ^ (ell q c V ab (t + r) + e) = 2 * 2 ^ (ell q c V ab (t + 2 ^ j + r) + e)
        rw [h2 r hr, show ell q c V ab (t + 2 ^ j + r) + 1 + e = ell q c V ab (t + 2 ^ j + r) + e + 1 by omega, Nat.pow_succ]
        omega)
      rw [this, smA_mul]
      omega
end CNT
/-! the greatest block -/
def mbt (n : Nat) : Nat := [1, 1, 2, 3, 6, 10, 20, 35, 70, 126].getD n 5000000
theorem mbt_mono {a b : Nat} (h : a ≤ b) : mbt a ≤ mbt b := by
  have key : ∀ b : Fin 11, ∀ a : Fin 11, a.val ≤ b.val → mbt a.val ≤ mbt b.val := by decide
  have big : ∀ n, 10 ≤ n → mbt n = 5000000 := by
    intro n hn
    unfold mbt
    rw [List.getD_eq_getElem?_getD, List.getElem?_eq_none (by simpa using hn)]
    rfl
  rcases Nat.lt_or_ge b 10 with hb | hb
  · exact key ⟨b, by omega⟩ ⟨a, by omega⟩ h
  · rw [big b hb]
    rcases Nat.lt_or_ge a 10 with ha | ha
    · have := key ⟨10, by omega⟩ ⟨a, by omega⟩ (show a ≤ 10 by omega)
      rw [big 10 (by omega)] at this
      exact this
    · rw [big a ha]
      exact Nat.le_refl _
/-- weights by ones and loops -/
abbrev WF := Nat → Nat → Nat
def dcW (W : WF) : WF := fun h d => if h = 0 then 0 else W (h - 1) d
def up1 (W : WF) : WF := fun h d => W h d + dcW W h (d + 1)
def up0 (W : WF) : WF := fun h d => W h (d + 1) + dcW W h d
def u0n (W : WF) : Nat → WF
  | 0 => W
  | a + 1 => up0 (u0n W a)
def u1n (W : WF) : Nat → WF
  | 0 => W
  | b + 1 => up1 (u1n W b)
def abW (W : WF) (a b : Nat) : WF := u1n (u0n W a) b
theorem dc_up1 {W : WF} : dcW (up1 W) = up1 (dcW W) := by
  funext h d
  unfold up1 dcW
  by_cases h0 : h = 0
  · rw [if_pos h0, if_pos h0, if_pos h0]
  · rw [if_neg h0, if_neg h0, if_neg h0]
theorem dc_up0 {W : WF} : dcW (up0 W) = up0 (dcW W) := by
  funext h d
  unfold up0 dcW
  by_cases h0 : h = 0
  · rw [if_pos h0, if_pos h0, if_pos h0]
  · rw [if_neg h0, if_neg h0, if_neg h0]
theorem up_comm {W : WF} : up0 (up1 W) = up1 (up0 W) := by
  funext h d
  have e1 : dcW (up1 W) h d = dcW W h d + dcW (dcW W) h (d + 1) := by rw [dc_up1]; rfl
  have e2 : dcW (up0 W) h (d + 1) = dcW W h (d + 1 + 1) + dcW (dcW W) h (d + 1) := by rw [dc_up0]; rfl
  show up1 W h (d + 1) + dcW (up1 W) h d = up0 W h d + dcW (up0 W) h (d + 1)
  rw [e1, e2]
  show W h (d + 1) + dcW W h (d + 1 + 1) + _ = W h (d + 1) + dcW W h d + _
  omega
theorem ab_up1 {W : WF} : ∀ a b, abW (up1 W) a b = up1 (abW W a b)
  | 0, 0 => rfl
  | a + 1, 0 => by
    show up0 (abW (up1 W) a 0) = up1 (up0 (abW W a 0))
    rw [ab_up1 a 0, up_comm]
  | a, b + 1 => by
    show up1 (abW (up1 W) a b) = up1 (up1 (abW W a b))
    rw [ab_up1 a b]
theorem ab_up0 {W : WF} : ∀ a b, abW (up0 W) a b = up0 (abW W a b)
  | 0, 0 => rfl
  | a + 1, 0 => by
    show up0 (abW (up0 W) a 0) = up0 (up0 (abW W a 0))
    rw [ab_up0 a 0]
  | a, b + 1 => by
    show up1 (abW (up0 W) a b) = up0 (up1 (abW W a b))
    rw [ab_up0 a b, up_comm]
theorem ab_up0' {W : WF} : ∀ a b, up0 (abW W a b) = abW W (a + 1) b
  | a, 0 => by cases a <;> rfl
  | a, b + 1 => by
    show up0 (up1 (abW W a b)) = up1 (abW W (a + 1) b)
    rw [up_comm, ab_up0' a b]
theorem ab_add {W U : WF} : ∀ a b, abW (fun h d => W h d + dcW U h d) a b = fun h d => abW W a b h d + dcW (abW U a b) h d
  | 0, 0 => rfl
  | a + 1, 0 => by
    show up0 (abW (fun h d => W h d + dcW U h d) a 0) = _
    rw [ab_add a 0]
    funext h d
    have e2 : dcW (abW U (a + 1) 0) h d = dcW (abW U a 0) h (d + 1) + dcW (dcW (abW U a 0)) h d := by
      show dcW (up0 (abW U a 0)) h d = _
      rw [dc_up0]; rfl
    rw [e2]
    show abW W a 0 h (d + 1) + dcW (abW U a 0) h (d + 1) + dcW (fun h d => abW W a 0 h d + dcW (abW U a 0) h d) h d = abW W a 0 h (d + 1) + dcW (abW W a 0) h d + _
    have e3 : dcW (fun h d => abW W a 0 h d + dcW (abW U a 0) h d) h d = dcW (abW W a 0) h d + dcW (dcW (abW U a 0)) h d := by
      unfold dcW
      by_cases h0 : h = 0
      · rw [if_pos h0, if_pos h0, if_pos h0]
      · rw [if_neg h0, if_neg h0, if_neg h0]
    rw [e3]
    omega
  | a, b + 1 => by
    show up1 (abW (fun h d => W h d + dcW U h d) a b) = _
    rw [ab_add a b]
    funext h d
    have e2 : dcW (abW U a (b + 1)) h d = dcW (abW U a b) h d + dcW (dcW (abW U a b)) h (d + 1) := by
      have : abW U a (b + 1) = up1 (abW U a b) := by cases a <;> rfl
      rw [this, dc_up1]; rfl
    have e4 : abW W a (b + 1) = up1 (abW W a b) := by cases a <;> rfl
    rw [e2, e4]
    show abW W a b h d + dcW (abW U a b) h d + dcW (fun h d => abW W a b h d + dcW (abW U a b) h d) h (d + 1) = abW W a b h d + dcW (abW W a b) h (d + 1) + _
    have e3 : dcW (fun h d => abW W a b h d + dcW (abW U a b) h d) h (d + 1) = dcW (abW W a b) h (d + 1) + dcW (dcW (abW U a b)) h (d + 1) := by
      unfold dcW
      by_cases h0 : h = 0
      · rw [if_pos h0, if_pos h0, if_pos h0]
      · rw [if_neg h0, if_neg h0, if_neg h0]
    rw [e3]
    omega
theorem dc_mono {W U : WF} (h : ∀ h d, W h d ≤ U h d) : ∀ h d, dcW W h d ≤ dcW U h d := by
  intro g d
  unfold dcW
  by_cases h0 : g = 0
  · rw [if_pos h0, if_pos h0]; exact Nat.le_refl _
  · rw [if_neg h0, if_neg h0]; exact h _ _
theorem ab_mono {W U : WF} (h : ∀ h d, W h d ≤ U h d) : ∀ a b h d, abW W a b h d ≤ abW U a b h d
  | 0, 0, g, d => h g d
  | a + 1, 0, g, d => Nat.add_le_add (ab_mono h a 0 g (d + 1)) (dc_mono (ab_mono h a 0) g d)
  | 0, b + 1, g, d => Nat.add_le_add (ab_mono h 0 b g d) (dc_mono (ab_mono h 0 b) g (d + 1))
  | a + 1, b + 1, g, d => Nat.add_le_add (ab_mono h (a + 1) b g d) (dc_mono (ab_mono h (a + 1) b) g (d + 1))
/-- one state with k loops -/
def W1 (k : Nat) : WF := fun h d => if h = 0 then mbt (k + d) else 0
def tbK : Nat → List (List (List (List Nat)))
  | 1 => [[[[1,0,0,0,0,0,0,0,0],[2,2,0,0,0,0,0,0,0],[3,4,3,0,0,0,0,0,0],[6,10,10,6,0,0,0,0,0],[10,24,24,24,10,0,0,0,0],[20,50,62,62,50,20,0,0,0],[35,120,160,160,160,120,35,0,0],[70,245,420,426,426,420,245,70,0],[126,560,980,1140,1140,1140,980,560,126]],[[1,2,0,0,0,0,0,0,0],[2,4,3,0,0,0,0,0,0],[3,10,10,6,0,0,0,0,0],[6,19,24,24,10,0,0,0,0],[10,44,62,62,50,20,0,0,0],[20,85,160,160,160,120,35,0,0],[35,190,360,426,426,420,245,70,0],[70,371,910,1140,1140,1140,980,560,126]],[[1,4,3,0,0,0,0,0,0],[2,7,10,6,0,0,0,0,0],[3,16,24,24,10,0,0,0,0],[6,29,62,62,50,20,0,0,0],[10,64,133,160,160,120,35,0,0],[20,120,330,426,426,420,245,70,0],[35,260,696,1140,1140,1140,980,560,126]],[[1,6,9,6,0,0,0,0,0],[2,10,24,24,10,0,0,0,0],[3,22,49,62,50,20,0,0,0],[6,39,120,160,160,120,35,0,0],[10,84,243,426,426,420,245,70,0],[20,155,570,981,1140,1140,980,560,126]],[[1,8,18,24,10,0,0,0,0],[2,13,44,60,50,20,0,0,0],[3,28,85,160,160,120,35,0,0],[6,49,198,357,426,420,245,70,0],[10,104,388,912,1140,1140,980,560,126]],[[1,10,30,60,50,20,0,0,0],[2,16,70,130,160,120,35,0,0],[3,34,131,330,420,420,245,70,0],[6,59,296,696,1140,1140,980,560,126]],[[1,12,45,120,150,120,35,0,0],[2,19,102,245,420,420,245,70,0],[3,40,187,592,970,1140,980,560,126]],[[1,14,63,210,350,420,245,70,0],[2,22,140,413,910,1120,980,560,126]],[[1,16,84,336,700,1120,980,560,126]]],[[[2,1,0,0,0,0,0,0,0],[3,4,2,0,0,0,0,0,0],[6,10,10,3,0,0,0,0,0],[10,24,24,19,6,0,0,0,0],[20,50,62,62,44,10,0,0,0],[35,120,160,160,160,85,20,0,0],[70,245,420,426,426,360,190,35,0],[126,560,980,1140,1140,1140,910,371,70]],[[2,4,2,0,0,0,0,0,0],[3,10,10,3,0,0,0,0,0],[6,19,24,19,6,0,0,0,0],[10,44,62,62,44,10,0,0,0],[20,85,160,160,160,85,20,0,0],[35,190,360,426,426,360,190,35,0],[70,371,910,1140,1140,1140,910,371,70]],[[2,7,10,3,0,0,0,0,0],[3,16,24,19,6,0,0,0,0],[6,29,62,62,44,10,0,0,0],[10,64,133,160,160,85,20,0,0],[20,120,330,426,426,360,190,35,0],[35,260,696,1140,1140,1140,910,371,70]],[[2,10,24,19,6,0,0,0,0],[3,22,49,62,44,10,0,0,0],[6,39,120,160,160,85,20,0,0],[10,84,243,426,426,360,190,35,0],[20,155,570,981,1140,1140,910,371,70]],[[2,13,44,58,44,10,0,0,0],[3,28,85,160,160,85,20,0,0],[6,49,198,357,426,360,190,35,0],[10,104,388,912,1140,1140,910,371,70]],[[2,16,70,130,160,85,20,0,0],[3,34,131,330,420,360,190,35,0],[6,59,296,696,1140,1140,910,371,70]],[[2,19,102,245,420,360,190,35,0],[3,40,187,592,970,1140,910,371,70]],[[2,22,140,413,910,1085,910,371,70]]],[[[3,4,1,0,0,0,0,0,0],[6,10,7,2,0,0,0,0,0],[10,24,24,16,3,0,0,0,0],[20,50,62,62,29,6,0,0,0],[35,120,160,160,133,64,10,0,0],[70,245,420,426,426,330,120,20,0],[126,560,980,1140,1140,1140,696,260,35]],[[3,10,7,2,0,0,0,0,0],[6,19,24,16,3,0,0,0,0],[10,44,62,62,29,6,0,0,0],[20,85,160,160,133,64,10,0,0],[35,190,360,426,426,330,120,20,0],[70,371,910,1140,1140,1140,696,260,35]],[[3,16,23,16,3,0,0,0,0],[6,29,62,62,29,6,0,0,0],[10,64,133,160,133,64,10,0,0],[20,120,330,426,426,330,120,20,0],[35,260,696,1140,1140,1140,696,260,35]],[[3,22,49,62,29,6,0,0,0],[6,39,120,160,133,64,10,0,0],[10,84,243,426,426,330,120,20,0],[20,155,570,981,1140,1140,696,260,35]],[[3,28,85,160,133,64,10,0,0],[6,49,198,357,426,330,120,20,0],[10,104,388,912,1140,1140,696,260,35]],[[3,34,131,330,405,330,120,20,0],[6,59,296,696,1140,1140,696,260,35]],[[3,40,187,592,970,1140,696,260,35]]],[[[6,9,6,1,0,0,0,0,0],[10,24,24,10,2,0,0,0,0],[20,50,62,49,22,3,0,0,0],[35,120,160,160,120,39,6,0,0],[70,245,420,426,426,243,84,10,0],[126,560,980,1140,1140,981,570,155,20]],[[6,19,24,10,2,0,0,0,0],[10,44,62,49,22,3,0,0,0],[20,85,160,160,120,39,6,0,0],[35,190,360,426,426,243,84,10,0],[70,371,910,1140,1140,981,570,155,20]],[[6,29,62,49,22,3,0,0,0],[10,64,133,160,120,39,6,0,0],[20,120,330,426,426,243,84,10,0],[35,260,696,1140,1140,981,570,155,20]],[[6,39,120,153,120,39,6,0,0],[10,84,243,426,426,243,84,10,0],[20,155,570,981,1140,981,570,155,20]],[[6,49,198,357,426,243,84,10,0],[10,104,388,912,1140,981,570,155,20]],[[6,59,296,696,1140,981,570,155,20]]],[[[10,24,18,8,1,0,0,0,0],[20,50,60,44,13,2,0,0,0],[35,120,160,160,85,28,3,0,0],[70,245,420,426,357,198,49,6,0],[126,560,980,1140,1140,912,388,104,10]],[[10,44,58,44,13,2,0,0,0],[20,85,160,160,85,28,3,0,0],[35,190,360,426,357,198,49,6,0],[70,371,910,1140,1140,912,388,104,10]],[[10,64,133,160,85,28,3,0,0],[20,120,330,426,357,198,49,6,0],[35,260,696,1140,1140,912,388,104,10]],[[10,84,243,426,357,198,49,6,0],[20,155,570,981,1140,912,388,104,10]],[[10,104,388,912,1095,912,388,104,10]]],[[[20,50,60,30,10,1,0,0,0],[35,120,160,130,70,16,2,0,0],[70,245,420,420,330,131,34,3,0],[126,560,980,1140,1140,696,296,59,6]],[[20,85,160,130,70,16,2,0,0],[35,190,360,420,330,131,34,3,0],[70,371,910,1140,1140,696,296,59,6]],[[20,120,330,405,330,131,34,3,0],[35,260,696,1140,1140,696,296,59,6]],[[20,155,570,981,1140,696,296,59,6]]],[[[35,120,150,120,45,12,1,0,0],[70,245,420,420,245,102,19,2,0],[126,560,980,1140,970,592,187,40,3]],[[35,190,360,420,245,102,19,2,0],[70,371,910,1140,970,592,187,40,3]],[[35,260,696,1140,970,592,187,40,3]]],[[[70,245,420,350,210,63,14,1,0],[126,560,980,1120,910,413,140,22,2]],[[70,371,910,1085,910,413,140,22,2]]],[[[126,560,980,1120,700,336,84,16,1]]]]
  | 2 => [[[[2,0,0,0,0,0,0,0,0],[3,3,0,0,0,0,0,0,0],[6,8,6,0,0,0,0,0,0],[10,18,18,10,0,0,0,0,0],[20,40,46,40,20,0,0,0,0],[35,100,116,116,100,35,0,0,0],[70,210,300,306,300,210,70,0,0],[126,490,735,810,810,735,490,126,0]],[[2,3,0,0,0,0,0,0,0],[3,8,6,0,0,0,0,0,0],[6,16,18,10,0,0,0,0,0],[10,38,46,40,20,0,0,0,0],[20,75,116,116,100,35,0,0,0],[35,170,275,306,300,210,70,0,0],[70,336,720,810,810,735,490,126,0]],[[2,6,6,0,0,0,0,0,0],[3,14,18,10,0,0,0,0,0],[6,26,46,40,20,0,0,0,0],[10,58,104,116,100,35,0,0,0],[20,110,266,306,300,210,70,0,0],[35,240,576,810,810,735,490,126,0]],[[2,9,18,10,0,0,0,0,0],[3,20,39,40,20,0,0,0,0],[6,36,98,116,100,35,0,0,0],[10,78,204,306,300,210,70,0,0],[20,145,486,738,810,735,490,126,0]],[[2,12,36,40,20,0,0,0,0],[3,26,72,116,100,35,0,0,0],[6,46,170,272,300,210,70,0,0],[10,98,339,714,810,735,490,126,0]],[[2,15,60,100,100,35,0,0,0],[3,32,115,260,300,210,70,0,0],[6,56,262,565,810,735,490,126,0]],[[2,18,90,200,300,210,70,0,0],[3,38,168,490,725,735,490,126,0]],[[2,21,126,350,700,735,490,126,0]]],[[[3,2,0,0,0,0,0,0,0],[6,8,3,0,0,0,0,0,0],[10,18,16,6,0,0,0,0,0],[20,40,46,38,10,0,0,0,0],[35,100,116,116,75,20,0,0,0],[70,210,300,306,275,170,35,0,0],[126,490,735,810,810,720,336,70,0]],[[3,8,3,0,0,0,0,0,0],[6,16,16,6,0,0,0,0,0],[10,38,46,38,10,0,0,0,0],[20,75,116,116,75,20,0,0,0],[35,170,275,306,275,170,35,0,0],[70,336,720,810,810,720,336,70,0]],[[3,14,16,6,0,0,0,0,0],[6,26,46,38,10,0,0,0,0],[10,58,104,116,75,20,0,0,0],[20,110,266,306,275,170,35,0,0],[35,240,576,810,810,720,336,70,0]],[[3,20,39,38,10,0,0,0,0],[6,36,98,116,75,20,0,0,0],[10,78,204,306,275,170,35,0,0],[20,145,486,738,810,720,336,70,0]],[[3,26,72,116,75,20,0,0,0],[6,46,170,272,275,170,35,0,0],[10,98,339,714,810,720,336,70,0]],[[3,32,115,260,275,170,35,0,0],[6,56,262,565,810,720,336,70,0]],[[3,38,168,490,725,720,336,70,0]]],[[[6,6,2,0,0,0,0,0,0],[10,18,14,3,0,0,0,0,0],[20,40,46,26,6,0,0,0,0],[35,100,116,104,58,10,0,0,0],[70,210,300,306,266,110,20,0,0],[126,490,735,810,810,576,240,35,0]],[[6,16,14,3,0,0,0,0,0],[10,38,46,26,6,0,0,0,0],[20,75,116,104,58,10,0,0,0],[35,170,275,306,266,110,20,0,0],[70,336,720,810,810,576,240,35,0]],[[6,26,46,26,6,0,0,0,0],[10,58,104,104,58,10,0,0,0],[20,110,266,306,266,110,20,0,0],[35,240,576,810,810,576,240,35,0]],[[6,36,98,104,58,10,0,0,0],[10,78,204,306,266,110,20,0,0],[20,145,486,738,810,576,240,35,0]],[[6,46,170,272,266,110,20,0,0],[10,98,339,714,810,576,240,35,0]],[[6,56,262,565,810,576,240,35,0]]],[[[10,18,9,2,0,0,0,0,0],[20,40,39,20,3,0,0,0,0],[35,100,116,98,36,6,0,0,0],[70,210,300,306,204,78,10,0,0],[126,490,735,810,738,486,145,20,0]],[[10,38,39,20,3,0,0,0,0],[20,75,116,98,36,6,0,0,0],[35,170,275,306,204,78,10,0,0],[70,336,720,810,738,486,145,20,0]],[[10,58,104,98,36,6,0,0,0],[20,110,266,306,204,78,10,0,0],[35,240,576,810,738,486,145,20,0]],[[10,78,204,306,204,78,10,0,0],[20,145,486,738,738,486,145,20,0]],[[10,98,339,714,738,486,145,20,0]]],[[[20,40,36,12,2,0,0,0,0],[35,100,116,72,26,3,0,0,0],[70,210,300,272,170,46,6,0,0],[126,490,735,810,714,339,98,10,0]],[[20,75,116,72,26,3,0,0,0],[35,170,275,272,170,46,6,0,0],[70,336,720,810,714,339,98,10,0]],[[20,110,266,272,170,46,6,0,0],[35,240,576,810,714,339,98,10,0]],[[20,145,486,738,714,339,98,10,0]]],[[[35,100,100,60,15,2,0,0,0],[70,210,300,260,115,32,3,0,0],[126,490,735,810,565,262,56,6,0]],[[35,170,275,260,115,32,3,0,0],[70,336,720,810,565,262,56,6,0]],[[35,240,576,810,565,262,56,6,0]]],[[[70,210,300,200,90,18,2,0,0],[126,490,735,725,490,168,38,3,0]],[[70,336,720,725,490,168,38,3,0]]],[[[126,490,735,700,350,126,21,2,0]]]]
  | 3 => [[[[3,0,0,0,0,0,0,0,0],[6,6,0,0,0,0,0,0,0],[10,13,10,0,0,0,0,0,0],[20,32,32,20,0,0,0,0,0],[35,80,78,80,35,0,0,0,0],[70,175,208,208,175,70,0,0,0],[126,420,550,544,550,420,126,0,0]],[[3,6,0,0,0,0,0,0,0],[6,13,10,0,0,0,0,0,0],[10,32,32,20,0,0,0,0,0],[20,65,78,80,35,0,0,0,0],[35,150,208,208,175,70,0,0,0],[70,301,550,544,550,420,126,0,0]],[[3,12,10,0,0,0,0,0,0],[6,23,32,20,0,0,0,0,0],[10,52,78,80,35,0,0,0,0],[20,100,208,208,175,70,0,0,0],[35,220,466,544,550,420,126,0,0]],[[3,18,30,20,0,0,0,0,0],[6,33,78,80,35,0,0,0,0],[10,72,168,208,175,70,0,0,0],[20,135,408,544,550,420,126,0,0]],[[3,24,60,80,35,0,0,0,0],[6,43,144,200,175,70,0,0,0],[10,92,293,544,550,420,126,0,0]],[[3,30,100,200,175,70,0,0,0],[6,53,230,450,550,420,126,0,0]],[[3,36,150,400,525,420,126,0,0]]],[[[6,3,0,0,0,0,0,0,0],[10,13,6,0,0,0,0,0,0],[20,32,32,10,0,0,0,0,0],[35,80,78,65,20,0,0,0,0],[70,175,208,208,150,35,0,0,0],[126,420,550,544,550,301,70,0,0]],[[6,13,6,0,0,0,0,0,0],[10,32,32,10,0,0,0,0,0],[20,65,78,65,20,0,0,0,0],[35,150,208,208,150,35,0,0,0],[70,301,550,544,550,301,70,0,0]],[[6,23,32,10,0,0,0,0,0],[10,52,78,65,20,0,0,0,0],[20,100,208,208,150,35,0,0,0],[35,220,466,544,550,301,70,0,0]],[[6,33,78,65,20,0,0,0,0],[10,72,168,208,150,35,0,0,0],[20,135,408,544,550,301,70,0,0]],[[6,43,144,200,150,35,0,0,0],[10,92,293,544,550,301,70,0,0]],[[6,53,230,450,550,301,70,0,0]]],[[[10,12,3,0,0,0,0,0,0],[20,32,23,6,0,0,0,0,0],[35,80,78,52,10,0,0,0,0],[70,175,208,208,100,20,0,0,0],[126,420,550,544,466,220,35,0,0]],[[10,32,23,6,0,0,0,0,0],[20,65,78,52,10,0,0,0,0],[35,150,208,208,100,20,0,0,0],[70,301,550,544,466,220,35,0,0]],[[10,52,78,52,10,0,0,0,0],[20,100,208,208,100,20,0,0,0],[35,220,466,544,466,220,35,0,0]],[[10,72,168,208,100,20,0,0,0],[20,135,408,544,466,220,35,0,0]],[[10,92,293,544,466,220,35,0,0]]],[[[20,30,18,3,0,0,0,0,0],[35,80,78,33,6,0,0,0,0],[70,175,208,168,72,10,0,0,0],[126,420,550,544,408,135,20,0,0]],[[20,65,78,33,6,0,0,0,0],[35,150,208,168,72,10,0,0,0],[70,301,550,544,408,135,20,0,0]],[[20,100,208,168,72,10,0,0,0],[35,220,466,544,408,135,20,0,0]],[[20,135,408,534,408,135,20,0,0]]],[[[35,80,60,24,3,0,0,0,0],[70,175,200,144,43,6,0,0,0],[126,420,550,544,293,92,10,0,0]],[[35,150,200,144,43,6,0,0,0],[70,301,550,544,293,92,10,0,0]],[[35,220,466,544,293,92,10,0,0]]],[[[70,175,200,100,30,3,0,0,0],[126,420,550,450,230,53,6,0,0]],[[70,301,550,450,230,53,6,0,0]]],[[[126,420,525,400,150,36,3,0,0]]]]
  | 4 => [[[[6,0,0,0,0,0,0,0,0],[10,10,0,0,0,0,0,0,0],[20,26,20,0,0,0,0,0,0],[35,60,60,35,0,0,0,0,0],[70,140,156,140,70,0,0,0,0],[126,350,400,400,350,126,0,0,0]],[[6,10,0,0,0,0,0,0,0],[10,26,20,0,0,0,0,0,0],[20,55,60,35,0,0,0,0,0],[35,130,156,140,70,0,0,0,0],[70,266,400,400,350,126,0,0,0]],[[6,20,20,0,0,0,0,0,0],[10,46,60,35,0,0,0,0,0],[20,90,156,140,70,0,0,0,0],[35,200,366,400,350,126,0,0,0]],[[6,30,60,35,0,0,0,0,0],[10,66,135,140,70,0,0,0,0],[20,125,336,400,350,126,0,0,0]],[[6,40,120,140,70,0,0,0,0],[10,86,250,400,350,126,0,0,0]],[[6,50,200,350,350,126,0,0,0]]],[[[10,6,0,0,0,0,0,0,0],[20,26,10,0,0,0,0,0,0],[35,60,55,20,0,0,0,0,0],[70,140,156,130,35,0,0,0,0],[126,350,400,400,266,70,0,0,0]],[[10,26,10,0,0,0,0,0,0],[20,55,55,20,0,0,0,0,0],[35,130,156,130,35,0,0,0,0],[70,266,400,400,266,70,0,0,0]],[[10,46,55,20,0,0,0,0,0],[20,90,156,130,35,0,0,0,0],[35,200,366,400,266,70,0,0,0]],[[10,66,135,130,35,0,0,0,0],[20,125,336,400,266,70,0,0,0]],[[10,86,250,400,266,70,0,0,0]]],[[[20,20,6,0,0,0,0,0,0],[35,60,46,10,0,0,0,0,0],[70,140,156,90,20,0,0,0,0],[126,350,400,366,200,35,0,0,0]],[[20,55,46,10,0,0,0,0,0],[35,130,156,90,20,0,0,0,0],[70,266,400,366,200,35,0,0,0]],[[20,90,156,90,20,0,0,0,0],[35,200,366,366,200,35,0,0,0]],[[20,125,336,366,200,35,0,0,0]]],[[[35,60,30,6,0,0,0,0,0],[70,140,135,66,10,0,0,0,0],[126,350,400,336,125,20,0,0,0]],[[35,130,135,66,10,0,0,0,0],[70,266,400,336,125,20,0,0,0]],[[35,200,366,336,125,20,0,0,0]]],[[[70,140,120,40,6,0,0,0,0],[126,350,400,250,86,10,0,0,0]],[[70,266,400,250,86,10,0,0,0]]],[[[126,350,350,200,50,6,0,0,0]]]]
  | 5 => [[[[10,0,0,0,0,0,0,0,0],[20,20,0,0,0,0,0,0,0],[35,45,35,0,0,0,0,0,0],[70,110,110,70,0,0,0,0,0],[126,280,276,280,126,0,0,0,0]],[[10,20,0,0,0,0,0,0,0],[20,45,35,0,0,0,0,0,0],[35,110,110,70,0,0,0,0,0],[70,231,276,280,126,0,0,0,0]],[[10,40,35,0,0,0,0,0,0],[20,80,110,70,0,0,0,0,0],[35,180,276,280,126,0,0,0,0]],[[10,60,105,70,0,0,0,0,0],[20,115,270,280,126,0,0,0,0]],[[10,80,210,280,126,0,0,0,0]]],[[[20,10,0,0,0,0,0,0,0],[35,45,20,0,0,0,0,0,0],[70,110,110,35,0,0,0,0,0],[126,280,276,231,70,0,0,0,0]],[[20,45,20,0,0,0,0,0,0],[35,110,110,35,0,0,0,0,0],[70,231,276,231,70,0,0,0,0]],[[20,80,110,35,0,0,0,0,0],[35,180,276,231,70,0,0,0,0]],[[20,115,270,231,70,0,0,0,0]]],[[[35,40,10,0,0,0,0,0,0],[70,110,80,20,0,0,0,0,0],[126,280,276,180,35,0,0,0,0]],[[35,110,80,20,0,0,0,0,0],[70,231,276,180,35,0,0,0,0]],[[35,180,276,180,35,0,0,0,0]]],[[[70,105,60,10,0,0,0,0,0],[126,280,270,115,20,0,0,0,0]],[[70,231,270,115,20,0,0,0,0]]],[[[126,280,210,80,10,0,0,0,0]]]]
  | 6 => [[[[20,0,0,0,0,0,0,0,0],[35,35,0,0,0,0,0,0,0],[70,90,70,0,0,0,0,0,0],[126,210,210,126,0,0,0,0,0]],[[20,35,0,0,0,0,0,0,0],[35,90,70,0,0,0,0,0,0],[70,196,210,126,0,0,0,0,0]],[[20,70,70,0,0,0,0,0,0],[35,160,210,126,0,0,0,0,0]],[[20,105,210,126,0,0,0,0,0]]],[[[35,20,0,0,0,0,0,0,0],[70,90,35,0,0,0,0,0,0],[126,210,196,70,0,0,0,0,0]],[[35,90,35,0,0,0,0,0,0],[70,196,196,70,0,0,0,0,0]],[[35,160,196,70,0,0,0,0,0]]],[[[70,70,20,0,0,0,0,0,0],[126,210,160,35,0,0,0,0,0]],[[70,196,160,35,0,0,0,0,0]]],[[[126,210,105,20,0,0,0,0,0]]]]
  | 7 => [[[[35,0,0,0,0,0,0,0,0],[70,70,0,0,0,0,0,0,0],[126,161,126,0,0,0,0,0,0]],[[35,70,0,0,0,0,0,0,0],[70,161,126,0,0,0,0,0,0]],[[35,140,126,0,0,0,0,0,0]]],[[[70,35,0,0,0,0,0,0,0],[126,161,70,0,0,0,0,0,0]],[[70,161,70,0,0,0,0,0,0]]],[[[126,140,35,0,0,0,0,0,0]]]]
  | 8 => [[[[70,0,0,0,0,0,0,0,0],[126,126,0,0,0,0,0,0,0]],[[70,126,0,0,0,0,0,0,0]]],[[[126,70,0,0,0,0,0,0,0]]]]
  | 9 => [[[[126,0,0,0,0,0,0,0,0]]]]
  | _ => []
def tbR (k a b j : Nat) : List Nat := ((((tbK k).getD a []).getD b []).getD j [])
def tbV (k a b j h : Nat) : Nat := (tbR k a b j).getD h 0
def tbD (k a b j h : Nat) : Nat := if h = 0 then 0 else tbV k a b j (h - 1)
set_option maxRecDepth 20000 in
theorem tb_0 : ∀ k : Fin 9, ∀ a : Fin 9, ∀ b : Fin 9, k.val + a.val + b.val ≤ 8 → ∀ h : Fin 9, abW (W1 (k.val + 1)) a.val b.val h.val 0 ≤ tbV (k.val + 1) a.val b.val 0 h.val := by decide +kernel
set_option maxRecDepth 20000 in
theorem tb_s : ∀ k : Fin 9, ∀ a : Fin 9, ∀ b : Fin 9, ∀ j : Fin 8, k.val + a.val + b.val + j.val + 1 ≤ 8 → ∀ h : Fin 9, tbV (k.val + 1) a.val (b.val + 1) j.val h.val ≤ tbV (k.val + 1) a.val b.val (j.val + 1) h.val ∧ tbV (k.val + 1) (a.val + 1) b.val j.val h.val ≤ tbV (k.val + 1) a.val b.val (j.val + 1) h.val ∧ tbV (k.val + 1) a.val b.val j.val h.val + tbD (k.val + 1) a.val b.val j.val h.val ≤ tbV (k.val + 1) a.val b.val (j.val + 1) h.val := by decide +kernel
theorem tb_m : ∀ k : Fin 9, ∀ j : Fin 9, k.val + j.val ≤ 8 → ∀ h : Fin 9, tbV (k.val + 1) 0 0 j.val h.val ≤ 1140 := by decide +kernel
section CNT2
variable {q : En4} {c V e : Nat} {ab : Nat → Bool}
def Wjt (q : En4) (c V e : Nat) (ab : Nat → Bool) (j t : Nat) : WF := fun h d => lm0 (fun s => mbt (ell q c V ab s + e + d)) j t h
theorem lm0_eq {w u : Nat → Nat} : ∀ (j t s h : Nat), (∀ r, r < 2 ^ j → w (t + r) = u (s + r)) → lm0 w j t h = lm0 u j s h
  | 0, t, s, h, hw => by
    have := hw 0 (by decide)
    show (if h = 0 then w t else 0) = if h = 0 then u s else 0
    rw [show w t = u s from this]
  | j + 1, t, s, h, hw => by
    have e2 : 2 ^ (j + 1) = 2 ^ j + 2 ^ j := by rw [Nat.pow_succ]; omega
    show lm0 w j t h + (if h = 0 then 0 else lm0 w j (t + 2 ^ j) (h - 1)) = lm0 u j s h + if h = 0 then 0 else lm0 u j (s + 2 ^ j) (h - 1)
    rw [lm0_eq j t s h (fun r hr => hw r (by omega)), lm0_eq j (t + 2 ^ j) (s + 2 ^ j) (h - 1) (fun r hr => by
      have := hw (2 ^ j + r) (by omega)
      rw [Nat.add_assoc, Nat.add_assoc]
      exact this)]
theorem blk_le (hE : ends q c V) (hev : evn q c) {k : Nat} (hk1 : 1 ≤ k) : ∀ (j t a b : Nat), j ≤ c → t % 2 ^ j = 0 → ell2 q c V ab j t + e ≤ k → k + a + b + j ≤ 9 → ∀ h, h < 9 → abW (Wjt q c V e ab j t) a b h 0 ≤ tbV k a b j h
  | 0, t, a, b, _, _, hn, hs, h, hh => by
    have h1 : ∀ h d, Wjt q c V e ab 0 t h d ≤ W1 k h d := by
      intro h d
      show (if h = 0 then mbt (ell q c V ab t + e + d) else 0) ≤ if h = 0 then mbt (k + d) else 0
      by_cases h0 : h = 0
      · rw [if_pos h0, if_pos h0]
        have hn : ell q c V ab t + e ≤ k := hn
        exact mbt_mono (by omega)
      · rw [if_neg h0, if_neg h0]
        exact Nat.le_refl _
    have h2 := ab_mono h1 a b h 0
    have h3 := tb_0 ⟨k - 1, by omega⟩ ⟨a, by omega⟩ ⟨b, by omega⟩ (by show k - 1 + a + b ≤ 8; omega) ⟨h, hh⟩
    rw [show k - 1 + 1 = k by omega] at h3
    exact Nat.le_trans h2 h3
  | j + 1, t, a, b, hj, ht, hn, hs, h, hh => by
    obtain ⟨p1, p2⟩ := md_pow ht
    have h3 := tb_s ⟨k - 1, by omega⟩ ⟨a, by omega⟩ ⟨b, by omega⟩ ⟨j, by omega⟩ (by show k - 1 + a + b + j + 1 ≤ 8; omega) ⟨h, hh⟩
    rw [show k - 1 + 1 = k by omega] at h3
    have e2 : 2 ^ (j + 1) = 2 ^ j + 2 ^ j := by rw [Nat.pow_succ]; omega
    have eW : Wjt q c V e ab (j + 1) t = fun h d => Wjt q c V e ab j t h d + dcW (Wjt q c V e ab j (t + 2 ^ j)) h d := by
      funext h d
      rfl
    rcases kinds2 (ab := ab) (by omega) hE hev ht with ⟨g1, g2⟩ | ⟨g1, g2⟩ | ⟨g1, g2⟩
    · rw [eW, ab_add]
      have i1 := blk_le hE hev hk1 j t a b (by omega) p1 (by rw [g1]; exact hn) (by omega) h hh
      have i2 : dcW (abW (Wjt q c V e ab j (t + 2 ^ j)) a b) h 0 ≤ tbD k a b j h := by
        unfold dcW tbD
        by_cases h0 : h = 0
        · rw [if_pos h0, if_pos h0]; exact Nat.le_refl _
        · rw [if_neg h0, if_neg h0]
          exact blk_le hE hev hk1 j (t + 2 ^ j) a b (by omega) p2 (by rw [g2]; exact hn) (by omega) (h - 1) (by omega)
      show abW (Wjt q c V e ab j t) a b h 0 + dcW (abW (Wjt q c V e ab j (t + 2 ^ j)) a b) h 0 ≤ _
      exact Nat.le_trans (Nat.add_le_add i1 i2) h3.2.2
    · have eU : Wjt q c V e ab (j + 1) t = up1 (Wjt q c V e ab j t) := by
        rw [eW]
        funext h d
        show _ + dcW (Wjt q c V e ab j (t + 2 ^ j)) h d = _ + dcW (Wjt q c V e ab j t) h (d + 1)
        congr 1
        unfold dcW
        by_cases h0 : h = 0
        · rw [if_pos h0, if_pos h0]
        · rw [if_neg h0, if_neg h0]
          exact lm0_eq j (t + 2 ^ j) t (h - 1) (fun r hr => by
            show mbt (ell q c V ab (t + 2 ^ j + r) + e + d) = mbt (ell q c V ab (t + r) + e + (d + 1))
            rw [g2 r hr]
            congr 1
            omega)
      rw [eU, ab_up1]
      have e4 : up1 (abW (Wjt q c V e ab j t) a b) = abW (Wjt q c V e ab j t) a (b + 1) := by cases a <;> rfl
      rw [e4]
      exact Nat.le_trans (blk_le hE hev hk1 j t a (b + 1) (by omega) p1 (by rw [g1]; exact hn) (by omega) h hh) h3.1
    · have eU : Wjt q c V e ab (j + 1) t = up0 (Wjt q c V e ab j (t + 2 ^ j)) := by
        rw [eW]
        funext h d
        show Wjt q c V e ab j t h d + _ = Wjt q c V e ab j (t + 2 ^ j) h (d + 1) + _
        congr 1
        exact lm0_eq j t (t + 2 ^ j) h (fun r hr => by
          show mbt (ell q c V ab (t + r) + e + d) = mbt (ell q c V ab (t + 2 ^ j + r) + e + (d + 1))
          rw [g2 r hr]
          congr 1
          omega)
      rw [eU, ab_up0, ab_up0']
      exact Nat.le_trans (blk_le hE hev hk1 j (t + 2 ^ j) (a + 1) b (by omega) p2 (by rw [g1]; exact hn) (by omega) h hh) h3.2.1
/-- no block has more than 1140 -/
theorem blk_1140 (hE : ends q c V) (hev : evn q c) {k : Nat} (hk1 : 1 ≤ k) (hn : ell2 q c V ab c 0 + e ≤ k) (hs : k + c ≤ 9) {h : Nat} (hh : h < 9) : smH (fun s => mbt (ell q c V ab s + e)) h 0 (2 ^ c) ≤ 1140 := by
  rw [smH_lm c 0 h (by omega)]
  have h1 := blk_le hE hev hk1 c 0 0 0 (Nat.le_refl _) (Nat.zero_mod _) hn (by omega) h hh
  have h2 := tb_m ⟨k - 1, by omega⟩ ⟨c, by omega⟩ (by show k - 1 + c ≤ 8; omega) ⟨h, hh⟩
  rw [show k - 1 + 1 = k by omega] at h2
  exact Nat.le_trans h1 h2
end CNT2
end
