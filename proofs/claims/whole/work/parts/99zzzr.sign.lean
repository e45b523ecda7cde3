/-! signature has an answer -/
section SIG
variable {X : (Nat → Nat → Int32) → Prop} {z : ow_MS}
theorem s16_ix {x y : Nat} : (16 : Int32) * nI x + nI y = nI (16 * x + y) := by
  rw [show (16 : Int32) * nI x = nI (16 * x) from pk_mul 16 x, nI_add]
theorem u_X13_times_1 {x1 : Int32} {x2 : Int32} {x3 : Int32} {x6 : Int32} {w4 : Int64} {z : ow_MS} {Q : ow_MS → Prop} (H : Tt (fun K k => qm_X13_times_1 K (q_X13_times K k) x1 x2 x3 x6 w4 z) Q) : Tt (fun K k => q_X13_times K k 1 x1 x2 x3 x6 w4 z) Q := w_un (fun _ _ => rfl) H
theorem u_X13_times_2 {x1 : Int32} {x2 : Int32} {x3 : Int32} {x6 : Int32} {w4 : Int64} {z : ow_MS} {Q : ow_MS → Prop} (H : Tt (fun K k => qm_X13_times_2 K (q_X13_times K k) x1 x2 x3 x6 w4 z) Q) : Tt (fun K k => q_X13_times K k 2 x1 x2 x3 x6 w4 z) Q := w_un (fun _ _ => rfl) H
theorem u_X13_times_3 {x1 : Int32} {x2 : Int32} {x3 : Int32} {x6 : Int32} {w4 : Int64} {z : ow_MS} {Q : ow_MS → Prop} (H : Tt (fun K k => qm_X13_times_3 K (q_X13_times K k) x1 x2 x3 x6 w4 z) Q) : Tt (fun K k => q_X13_times K k 3 x1 x2 x3 x6 w4 z) Q := w_un (fun _ _ => rfl) H
theorem e_X13_times {x1 : Int32} {z : ow_MS} {Q : ow_MS → Prop} (H : Tt (fun K k => q_X13_times K k 0 x1 0 0 0 0 z) Q) : Te (fun K => qe_X13_times K x1 z) Q := w_te H
theorem u_X13_times_0 {x1 : Int32} {x2 : Int32} {x3 : Int32} {x6 : Int32} {w4 : Int64} {z : ow_MS} {Q : ow_MS → Prop} (H : Tt (fun K k => qm_X13_times_0 K (q_X13_times K k) x1 x2 x3 x6 w4 z) Q) : Tt (fun K k => q_X13_times K k 0 x1 x2 x3 x6 w4 z) Q := w_un (fun _ _ => rfl) H
theorem tp_times {n : Nat} (hn : n ≤ 16) : Te (fun K => qe_X13_times K (nI n) z) (fun z1 => fr (fun g => g = 55) z z1) := by
  let Q : ow_MS → Prop := fun z1 => fr (fun g => g = 55) z z1
  have c1 : ∀ (d i : Nat) (y : ow_MS), i + d = n → fr (fun g => g = 55) z y → Tt (fun K k => q_X13_times K k 1 (nI n) (nI i) 0 0 0 y) Q := by
    intro d
    induction d with
    | zero =>
      intro i y hi hf
      refine u_X13_times_1 ?_; unfold qm_X13_times_1
      exact w_leT (by omega) (by omega) (w_some hf)
    | succ d ih =>
      intro i y hi hf
      have c2 : ∀ (d2 j : Nat) (y : ow_MS), j + d2 = n → fr (fun g => g = 55) z y → Tt (fun K k => q_X13_times K k 2 (nI n) (nI i) (nI j) 0 0 y) Q := by
        intro d2
        induction d2 with
        | zero =>
          intro j y hj hf
          refine u_X13_times_2 ?_; unfold qm_X13_times_2
          rw [nI_1]
          exact w_leT (by omega) (by omega) (ih (i + 1) y (by omega) hf)
        | succ d2 ih2 =>
          intro j y hj hf
          have c3 : ∀ (d3 k : Nat) (w : Int64), k + d3 = n → Tt (fun K t => q_X13_times K t 3 (nI n) (nI i) (nI j) (nI k) w y) Q := by
            intro d3
            induction d3 with
            | zero =>
              intro k w hk
              refine u_X13_times_3 ?_; unfold qm_X13_times_3
              rw [s16_ix, show nI j + 1 = nI (j + 1) from nI_1 _]
              exact w_leT (by omega) (by omega) (w_wrJ ml55 rfl (by omega) (ih2 (j + 1) _ (by omega) (fr_J2 hf rfl)))
            | succ d3 ih3 =>
              intro k w hk
              refine u_X13_times_3 ?_; unfold qm_X13_times_3
              rw [s16_ix, s16_ix, s16_ix, show nI k + 1 = nI (k + 1) from nI_1 _]
              exact w_leF (by omega) (by omega) (w_rdJ ml54 rfl (by omega) rfl (w_rdJ ml56 rfl (by omega) rfl (ih3 (k + 1) _ (by omega))))
          refine u_X13_times_2 ?_; unfold qm_X13_times_2
          exact w_leF (by omega) (by omega) (c3 n 0 0 (by omega))
      refine u_X13_times_1 ?_; unfold qm_X13_times_1
      exact w_leF (by omega) (by omega) (c2 n 0 y (by omega) hf)
  refine e_X13_times ?_
  refine u_X13_times_0 ?_; unfold qm_X13_times_0
  exact c1 n 0 z (by omega) fr_rf
theorem u_X13_changes_1 {x1 : Int32} {x2 : Int32} {x3 : Int32} {x4 : Int32} {x5 : Int32} {x6 : Int32} {t0 : Int32} {t1 : Int32} {z : ow_MS} {Q : (Int32 × ow_MS) → Prop} (H : Tt (fun K k => qm_X13_changes_1 K (q_X13_changes K k) x1 x2 x3 x4 x5 x6 t0 t1 z) Q) : Tt (fun K k => q_X13_changes K k 1 x1 x2 x3 x4 x5 x6 t0 t1 z) Q := w_un (fun _ _ => rfl) H
theorem u_X13_changes_5 {x1 : Int32} {x2 : Int32} {x3 : Int32} {x4 : Int32} {x5 : Int32} {x6 : Int32} {t0 : Int32} {t1 : Int32} {z : ow_MS} {Q : (Int32 × ow_MS) → Prop} (H : Tt (fun K k => qm_X13_changes_5 K (q_X13_changes K k) x1 x2 x3 x4 x5 x6 t0 t1 z) Q) : Tt (fun K k => q_X13_changes K k 5 x1 x2 x3 x4 x5 x6 t0 t1 z) Q := w_un (fun _ _ => rfl) H
theorem u_X13_changes_4 {x1 : Int32} {x2 : Int32} {x3 : Int32} {x4 : Int32} {x5 : Int32} {x6 : Int32} {t0 : Int32} {t1 : Int32} {z : ow_MS} {Q : (Int32 × ow_MS) → Prop} (H : Tt (fun K k => qm_X13_changes_4 K (q_X13_changes K k) x1 x2 x3 x4 x5 x6 t0 t1 z) Q) : Tt (fun K k => q_X13_changes K k 4 x1 x2 x3 x4 x5 x6 t0 t1 z) Q := w_un (fun _ _ => rfl) H
theorem u_X13_changes_3 {x1 : Int32} {x2 : Int32} {x3 : Int32} {x4 : Int32} {x5 : Int32} {x6 : Int32} {t0 : Int32} {t1 : Int32} {z : ow_MS} {Q : (Int32 × ow_MS) → Prop} (H : Tt (fun K k => qm_X13_changes_3 K (q_X13_changes K k) x1 x2 x3 x4 x5 x6 t0 t1 z) Q) : Tt (fun K k => q_X13_changes K k 3 x1 x2 x3 x4 x5 x6 t0 t1 z) Q := w_un (fun _ _ => rfl) H
theorem u_X13_changes_2 {x1 : Int32} {x2 : Int32} {x3 : Int32} {x4 : Int32} {x5 : Int32} {x6 : Int32} {t0 : Int32} {t1 : Int32} {z : ow_MS} {Q : (Int32 × ow_MS) → Prop} (H : Tt (fun K k => qm_X13_changes_2 K (q_X13_changes K k) x1 x2 x3 x4 x5 x6 t0 t1 z) Q) : Tt (fun K k => q_X13_changes K k 2 x1 x2 x3 x4 x5 x6 t0 t1 z) Q := w_un (fun _ _ => rfl) H
theorem e_X13_changes {x1 : Int32} {x2 : Int32} {z : ow_MS} {Q : (Int32 × ow_MS) → Prop} (H : Tt (fun K k => q_X13_changes K k 0 x1 x2 0 0 0 0 0 0 z) Q) : Te (fun K => qe_X13_changes K x1 x2 z) Q := w_te H
theorem u_X13_changes_0 {x1 : Int32} {x2 : Int32} {x3 : Int32} {x4 : Int32} {x5 : Int32} {x6 : Int32} {t0 : Int32} {t1 : Int32} {z : ow_MS} {Q : (Int32 × ow_MS) → Prop} (H : Tt (fun K k => qm_X13_changes_0 K (q_X13_changes K k) x1 x2 x3 x4 x5 x6 t0 t1 z) Q) : Tt (fun K k => q_X13_changes K k 0 x1 x2 x3 x4 x5 x6 t0 t1 z) Q := w_un (fun _ _ => rfl) H
theorem tp_changes {n : Nat} {b : Int32} (hn : n ≤ 19) : Te (fun K => qe_X13_changes K (nI n) b z) (fun r => r.2 = z) := by
  have c1 : ∀ (d : Nat) (x3 x4 : Int32), d ≤ n + 1 → Tt (fun K k => q_X13_changes K k 1 (nI n) b x3 x4 (iI ((d : Int) - 1)) 0 0 0 z) (fun r => r.2 = z) := by
    intro d
    induction d with
    | zero =>
      intro x3 x4 _
      refine u_X13_changes_1 ?_; unfold qm_X13_changes_1
      exact w_ifT (by show iI (-1) < iI 0; rw [iI_lt (by omega) (by omega) (by omega) (by omega)]; omega) (w_some rfl)
    | succ d ih =>
      intro x3 x4 hd
      have e1 : iI (((d + 1 : Nat) : Int) - 1) = nI d := iI_nI (by omega)
      have e2 : nI d + (-1) = iI ((d : Int) - 1) := by
        rw [nI_iI]
        show iI (d : Int) + iI (-1) = _
        rw [iI_add]
        rfl
      rw [e1]
      have c5 : ∀ (x3 x4 x6 : Int32), Tt (fun K k => q_X13_changes K k 5 (nI n) b x3 x4 (nI d) x6 0 0 z) (fun r => r.2 = z) := by
        intro x3 x4 x6
        refine u_X13_changes_5 ?_; unfold qm_X13_changes_5
        rw [e2]
        exact ih _ _ (by omega)
      have c4 : ∀ (x3 x4 x6 t0 t1 : Int32), Tt (fun K k => q_X13_changes K k 4 (nI n) b x3 x4 (nI d) x6 t0 t1 z) (fun r => r.2 = z) := by
        intro x3 x4 x6 t0 t1
        refine u_X13_changes_4 ?_; unfold qm_X13_changes_4
        exact c5 _ _ _
      have c3 : ∀ (x3 x4 x6 t0 : Int32), Tt (fun K k => q_X13_changes K k 3 (nI n) b x3 x4 (nI d) x6 t0 0 z) (fun r => r.2 = z) := by
        intro x3 x4 x6 t0
        refine u_X13_changes_3 ?_; unfold qm_X13_changes_3
        exact c4 _ _ _ _ _
      have c2 : ∀ (x3 x4 x6 : Int32), Tt (fun K k => q_X13_changes K k 2 (nI n) b x3 x4 (nI d) x6 0 0 z) (fun r => r.2 = z) := by
        intro x3 x4 x6
        refine u_X13_changes_2 ?_; unfold qm_X13_changes_2
        exact w_if (fun _ => c5 _ _ _) (fun _ => w_if (fun _ => c3 _ _ _ _) (fun _ => w_if (fun _ => c3 _ _ _ _) (fun _ => c4 _ _ _ _ _)))
      refine u_X13_changes_1 ?_; unfold qm_X13_changes_1
      exact w_ifF (fun h9 => absurd h9 (nI_pos (by omega))) (w_rdJ ml57 rfl (by omega) rfl (w_if (fun _ => c2 _ _ _) (fun _ => w_if (fun _ => c2 _ _ _) (fun _ => c2 _ _ _))))
  refine e_X13_changes ?_
  refine u_X13_changes_0 ?_; unfold qm_X13_changes_0
  have := c1 (n + 1) 0 0 (Nat.le_refl _)
  rw [show iI (((n + 1 : Nat) : Int) - 1) = nI n from iI_nI (by omega)] at this
  exact this
abbrev rtH (g : Nat) : Prop := 55 ≤ g ∧ g ≤ 57
theorem u_X13_rootsOf_2 {x1 : Int32} {x2 : Int32} {x3 : Int32} {x4 : Int32} {x5 : Int32} {w3 : Int64} {t2 : Int32} {y0 : Int64} {y1 : Int64} {z : ow_MS} {Q : (Int32 × ow_MS) → Prop} (H : Tt (fun K k => qm_X13_rootsOf_2 K (q_X13_rootsOf K k) x1 x2 x3 x4 x5 w3 t2 y0 y1 z) Q) : Tt (fun K k => q_X13_rootsOf K k 2 x1 x2 x3 x4 x5 w3 t2 y0 y1 z) Q := w_un (fun _ _ => rfl) H
theorem u_X13_rootsOf_6 {x1 : Int32} {x2 : Int32} {x3 : Int32} {x4 : Int32} {x5 : Int32} {w3 : Int64} {t2 : Int32} {y0 : Int64} {y1 : Int64} {z : ow_MS} {Q : (Int32 × ow_MS) → Prop} (H : Tt (fun K k => qm_X13_rootsOf_6 K (q_X13_rootsOf K k) x1 x2 x3 x4 x5 w3 t2 y0 y1 z) Q) : Tt (fun K k => q_X13_rootsOf K k 6 x1 x2 x3 x4 x5 w3 t2 y0 y1 z) Q := w_un (fun _ _ => rfl) H
theorem u_X13_rootsOf_3 {x1 : Int32} {x2 : Int32} {x3 : Int32} {x4 : Int32} {x5 : Int32} {w3 : Int64} {t2 : Int32} {y0 : Int64} {y1 : Int64} {z : ow_MS} {Q : (Int32 × ow_MS) → Prop} (H : Tt (fun K k => qm_X13_rootsOf_3 K (q_X13_rootsOf K k) x1 x2 x3 x4 x5 w3 t2 y0 y1 z) Q) : Tt (fun K k => q_X13_rootsOf K k 3 x1 x2 x3 x4 x5 w3 t2 y0 y1 z) Q := w_un (fun _ _ => rfl) H
theorem u_X13_rootsOf_4 {x1 : Int32} {x2 : Int32} {x3 : Int32} {x4 : Int32} {x5 : Int32} {w3 : Int64} {t2 : Int32} {y0 : Int64} {y1 : Int64} {z : ow_MS} {Q : (Int32 × ow_MS) → Prop} (H : Tt (fun K k => qm_X13_rootsOf_4 K (q_X13_rootsOf K k) x1 x2 x3 x4 x5 w3 t2 y0 y1 z) Q) : Tt (fun K k => q_X13_rootsOf K k 4 x1 x2 x3 x4 x5 w3 t2 y0 y1 z) Q := w_un (fun _ _ => rfl) H
theorem u_X13_rootsOf_5 {x1 : Int32} {x2 : Int32} {x3 : Int32} {x4 : Int32} {x5 : Int32} {w3 : Int64} {t2 : Int32} {y0 : Int64} {y1 : Int64} {z : ow_MS} {Q : (Int32 × ow_MS) → Prop} (H : Tt (fun K k => qm_X13_rootsOf_5 K (q_X13_rootsOf K k) x1 x2 x3 x4 x5 w3 t2 y0 y1 z) Q) : Tt (fun K k => q_X13_rootsOf K k 5 x1 x2 x3 x4 x5 w3 t2 y0 y1 z) Q := w_un (fun _ _ => rfl) H
theorem u_X13_rootsOf_1 {x1 : Int32} {x2 : Int32} {x3 : Int32} {x4 : Int32} {x5 : Int32} {w3 : Int64} {t2 : Int32} {y0 : Int64} {y1 : Int64} {z : ow_MS} {Q : (Int32 × ow_MS) → Prop} (H : Tt (fun K k => qm_X13_rootsOf_1 K (q_X13_rootsOf K k) x1 x2 x3 x4 x5 w3 t2 y0 y1 z) Q) : Tt (fun K k => q_X13_rootsOf K k 1 x1 x2 x3 x4 x5 w3 t2 y0 y1 z) Q := w_un (fun _ _ => rfl) H
theorem e_X13_rootsOf {x1 : Int32} {z : ow_MS} {Q : (Int32 × ow_MS) → Prop} (H : Tt (fun K k => q_X13_rootsOf K k 0 x1 0 0 0 0 0 0 0 0 z) Q) : Te (fun K => qe_X13_rootsOf K x1 z) Q := w_te H
theorem u_X13_rootsOf_0 {x1 : Int32} {x2 : Int32} {x3 : Int32} {x4 : Int32} {x5 : Int32} {w3 : Int64} {t2 : Int32} {y0 : Int64} {y1 : Int64} {z : ow_MS} {Q : (Int32 × ow_MS) → Prop} (H : Tt (fun K k => qm_X13_rootsOf_0 K (q_X13_rootsOf K k) x1 x2 x3 x4 x5 w3 t2 y0 y1 z) Q) : Tt (fun K k => q_X13_rootsOf K k 0 x1 x2 x3 x4 x5 w3 t2 y0 y1 z) Q := w_un (fun _ _ => rfl) H
theorem tp_roots {n : Nat} (hn : n ≤ 14) : Te (fun K => qe_X13_rootsOf K (nI n) z) (fun r => fr rtH z r.2) := by
  let Q : Int32 × ow_MS → Prop := fun r => fr rtH z r.2
  have h55 : ∀ {y y1 : ow_MS}, fr rtH z y → fr (fun g => g = 55) y y1 → fr rtH z y1 := fun h1 h2 => fr_tr h1 (fr_mono (fun g hg => by unfold rtH; omega) h2)
  have c2 : ∀ (d k : Nat) (y : ow_MS), k + d = n + 1 → 1 ≤ k → fr rtH z y → Tt (fun K t => q_X13_rootsOf K t 2 (nI n) (nI k) 0 0 0 0 0 0 0 y) Q := by
    intro d
    induction d with
    | zero =>
      intro k y hk hk1 hf
      refine u_X13_rootsOf_2 ?_; unfold qm_X13_rootsOf_2
      refine w_ltT (by omega) (by omega) (w_cs1 (tp_changes (by omega)) (fun a y1 e1 => ?_))
      have e1 : y1 = y := e1
      subst e1
      refine w_cs1 (tp_changes (by omega)) (fun a y2 e2 => ?_)
      have e2 : y2 = y1 := e2
      subst e2
      exact w_some hf
    | succ d ih =>
      intro k y hk hk1 hf
      have c6 : ∀ (d2 i : Nat) (w : Int64) (y : ow_MS), i + d2 = n → fr rtH z y → Tt (fun K t => q_X13_rootsOf K t 6 (nI n) (nI k) 0 0 (nI i) w 0 0 0 y) Q := by
        intro d2
        induction d2 with
        | zero =>
          intro i w y hi hf
          have hnz : (nI k).toInt64 ≠ 0 := by
            rw [nI_l (by omega)]
            exact fun e => by
              have := (pk_lEQ (a := k) (b := 0) (by omega) (by omega)).mp e
              omega
          refine u_X13_rootsOf_6 ?_; unfold qm_X13_rootsOf_6
          rw [show nI n - nI k = nI (n - k) from pk_sub (by omega), nI_1]
          exact w_leT (by omega) (by omega) (w_nzJ hnz (w_wrJ ml57 rfl (by omega) (ih (k + 1) _ (by omega) (by omega) (fr_J2 hf (by unfold rtH; omega)))))
        | succ d2 ih2 =>
          intro i w y hi hf
          refine u_X13_rootsOf_6 ?_; unfold qm_X13_rootsOf_6
          rw [show (17 : Int32) * nI i = nI (17 * i) from pk_mul 17 i, show nI i + 1 = nI (i + 1) from nI_1 _]
          exact w_leF (by omega) (by omega) (w_rdJ ml55 rfl (by omega) rfl (ih2 (i + 1) _ y (by omega) hf))
      have c3 : ∀ (d2 i : Nat) (y : ow_MS), i + d2 = n → fr rtH z y → Tt (fun K t => q_X13_rootsOf K t 3 (nI n) (nI k) (nI i) 0 0 0 0 0 0 y) Q := by
        intro d2
        induction d2 with
        | zero =>
          intro i y hi hf
          refine u_X13_rootsOf_3 ?_; unfold qm_X13_rootsOf_3
          exact w_leT (by omega) (by omega) (w_cs0 (tp_times (by omega)) (fun y1 f1 => c6 n 0 0 y1 (by omega) (h55 hf f1)))
        | succ d2 ih2 =>
          intro i y hi hf
          have c4 : ∀ (d3 j : Nat) (y : ow_MS), j + d3 = n → fr rtH z y → Tt (fun K t => q_X13_rootsOf K t 4 (nI n) (nI k) (nI i) (nI j) 0 0 0 0 0 y) Q := by
            intro d3
            induction d3 with
            | zero =>
              intro j y hj hf
              refine u_X13_rootsOf_4 ?_; unfold qm_X13_rootsOf_4
              rw [show nI i + 1 = nI (i + 1) from nI_1 _]
              exact w_leT (by omega) (by omega) (ih2 (i + 1) y (by omega) hf)
            | succ d3 ih3 =>
              intro j y hj hf
              have c5 : ∀ (y0 y1 : Int64), Tt (fun K t => q_X13_rootsOf K t 5 (nI n) (nI k) (nI i) (nI j) 0 0 (nI (16 * i + j)) y0 y1 y) Q := by
                intro y0 y1
                refine u_X13_rootsOf_5 ?_; unfold qm_X13_rootsOf_5
                rw [show nI j + 1 = nI (j + 1) from nI_1 _]
                exact w_wrJ ml56 rfl (by omega) (ih3 (j + 1) _ (by omega) (fr_J2 hf (by unfold rtH; omega)))
              refine u_X13_rootsOf_4 ?_; unfold qm_X13_rootsOf_4
              rw [s16_ix, show nI n - nI k + 1 = nI (n - k + 1) from by rw [pk_sub (by omega)]; exact nI_1 _]
              exact w_leF (by omega) (by omega) (w_rdJ ml55 rfl (by omega) rfl (w_if (fun _ => w_rdJ ml57 rfl (by omega) rfl (c5 _ _)) (fun _ => c5 _ _)))
          refine u_X13_rootsOf_3 ?_; unfold qm_X13_rootsOf_3
          exact w_leF (by omega) (by omega) (c4 n 0 y (by omega) hf)
      refine u_X13_rootsOf_2 ?_; unfold qm_X13_rootsOf_2
      exact w_ltF (by omega) (by omega) (w_cs0 (tp_times (by omega)) (fun y1 f1 => c3 n 0 y1 (by omega) (h55 hf f1)))
  have c1 : ∀ (d i : Nat) (y : ow_MS), i + d = 256 → fr rtH z y → Tt (fun K t => q_X13_rootsOf K t 1 (nI n) (nI i) 0 0 0 0 0 0 0 y) Q := by
    intro d
    induction d with
    | zero =>
      intro i y hi hf
      refine u_X13_rootsOf_1 ?_; unfold qm_X13_rootsOf_1
      exact w_leT (a := 256) (by omega) (by omega) (w_wrJ ml57 rfl (by omega) (c2 n 1 _ (by omega) (Nat.le_refl _) (fr_J2 hf (by unfold rtH; omega))))
    | succ d ih =>
      intro i y hi hf
      refine u_X13_rootsOf_1 ?_; unfold qm_X13_rootsOf_1
      rw [nI_1]
      exact w_leF (a := 256) (by omega) (by omega) (w_wrJ ml56 rfl (by omega) (ih (i + 1) _ (by omega) (fr_J2 hf (by unfold rtH; omega))))
  refine e_X13_rootsOf ?_
  refine u_X13_rootsOf_0 ?_; unfold qm_X13_rootsOf_0
  exact c1 256 0 z (by omega) fr_rf
/-- what stands while signatures are found: the net with its faces and parts -/
def fcI (y : ow_MS) (n : Nat) (A : rn_L) (sg : Nat → Bool) (F P : Nat) : Prop := oNet y n A sg ∧ rn_fc y n A.flatten.length F ∧ wkF2 A sg F (y.2.1 (n + 14)) ∧ rn_pt y n A P
theorem fcI_fr {n : Nat} {y y1 : ow_MS} {A : rn_L} {sg : Nat → Bool} {F P : Nat} {H : Nat → Prop} (hn : mw_net n) (hf : fr H y y1) (hH : ∀ g, H g → g < 1000) (h : fcI y n A sg F P) : fcI y1 n A sg F P := by
  have hmn := net_mod hn
  have e : ∀ g, 1000 ≤ g → y1.1 g = y.1 g ∧ y1.2.1 g = y.2.1 g := fun g hg => by
    have := hf g (fun h9 => by have := hH g h9; omega)
    exact ⟨this.1, this.2.1⟩
  obtain ⟨h1, h2, h3, h4⟩ := h
  refine ⟨oNet_fr hf (fun g hg => by have := hH g hg; omega) h1, ?_, ?_, ?_⟩
  · unfold rn_fc
    rw [(e (n + 16) (by omega)).1, (e (n + 14) (by omega)).2, (e (n + 15) (by omega)).2]
    exact h2
  · rw [(e (n + 14) (by omega)).2]
    exact h3
  · unfold rn_pt
    rw [(e (n + 13) (by omega)).1, (e (n + 12) (by omega)).2]
    exact h4
/-- the colours: 0, 1 or 2; what has one is a face of part p; f0 has 1 -/
def clI (y : ow_MS) (n : Nat) (A : rn_L) (p f0 : Nat) : Prop := (∀ f, f < 80 → ∃ c, c ≤ 2 ∧ y.2.1 52 f = nI c ∧ (c ≠ 0 → ∃ s, inP A (y.2.1 (n + 12)) p (s / 2) ∧ y.2.1 (n + 14) s = nI f)) ∧ y.2.1 52 f0 = 1
def zeC (y : ow_MS) : Nat := ((List.range 80).filter (fun f => decide (y.2.1 52 f = 0))).length
theorem zeC_lt {y : ow_MS} {f : Nat} {x : Int32} (hf : f < 80) (h0 : y.2.1 52 f = 0) (hx : x ≠ 0) : zeC (usI y 52 f x) < zeC y := by
  have hn : ((List.range 80).filter (fun f' => decide ((usI y 52 f x).2.1 52 f' = 0))).Nodup := List.nodup_range.filter _
  have h1 : f ∉ (List.range 80).filter (fun f' => decide ((usI y 52 f x).2.1 52 f' = 0)) := fun h9 => by
    have := of_decide_eq_true (List.mem_filter.mp h9).2
    rw [po_usI_at] at this
    exact hx this
  have := nodup_le (f :: (List.range 80).filter (fun f' => decide ((usI y 52 f x).2.1 52 f' = 0))) ((List.range 80).filter (fun f => decide (y.2.1 52 f = 0))) (List.nodup_cons.mpr ⟨h1, hn⟩) (fun g hg => by
    rcases List.mem_cons.mp hg with h9 | h9
    · rw [h9]
      exact List.mem_filter.mpr ⟨List.mem_range.mpr hf, decide_eq_true h0⟩
    · obtain ⟨a1, a2⟩ := List.mem_filter.mp h9
      have a2 := of_decide_eq_true a2
      have hgf : g ≠ f := fun e => by
        rw [e, po_usI_at] at a2
        exact hx a2
      rw [po_usI_ne hgf] at a2
      exact List.mem_filter.mpr ⟨a1, decide_eq_true a2⟩)
  rw [List.length_cons] at this
  exact this
theorem three_sub {c : Nat} (h1 : c ≤ 2) (h0 : c ≠ 0) : (3 : Int32) - nI c = nI (3 - c) := pk_sub (a := 3) (by omega)
theorem u_X13_colourFaces_8 {x2 : Int32} {x3 : Int32} {x4 : Int32} {x5 : Int32} {x6 : Int32} {x7 : Int32} {r1 : Nat} {t0 : Int32} {t1 : Int32} {z : ow_MS} {Q : (Int32 × ow_MS) → Prop} (H : Tt (fun K k => qm_X13_colourFaces_8 K (q_X13_colourFaces K k) x2 x3 x4 x5 x6 x7 r1 t0 t1 z) Q) : Tt (fun K k => q_X13_colourFaces K k 8 x2 x3 x4 x5 x6 x7 r1 t0 t1 z) Q := w_un (fun _ _ => rfl) H
theorem u_X13_colourFaces_9 {x2 : Int32} {x3 : Int32} {x4 : Int32} {x5 : Int32} {x6 : Int32} {x7 : Int32} {r1 : Nat} {t0 : Int32} {t1 : Int32} {z : ow_MS} {Q : (Int32 × ow_MS) → Prop} (H : Tt (fun K k => qm_X13_colourFaces_9 K (q_X13_colourFaces K k) x2 x3 x4 x5 x6 x7 r1 t0 t1 z) Q) : Tt (fun K k => q_X13_colourFaces K k 9 x2 x3 x4 x5 x6 x7 r1 t0 t1 z) Q := w_un (fun _ _ => rfl) H
theorem u_X13_colourFaces_3 {x2 : Int32} {x3 : Int32} {x4 : Int32} {x5 : Int32} {x6 : Int32} {x7 : Int32} {r1 : Nat} {t0 : Int32} {t1 : Int32} {z : ow_MS} {Q : (Int32 × ow_MS) → Prop} (H : Tt (fun K k => qm_X13_colourFaces_3 K (q_X13_colourFaces K k) x2 x3 x4 x5 x6 x7 r1 t0 t1 z) Q) : Tt (fun K k => q_X13_colourFaces K k 3 x2 x3 x4 x5 x6 x7 r1 t0 t1 z) Q := w_un (fun _ _ => rfl) H
theorem u_X13_colourFaces_2 {x2 : Int32} {x3 : Int32} {x4 : Int32} {x5 : Int32} {x6 : Int32} {x7 : Int32} {r1 : Nat} {t0 : Int32} {t1 : Int32} {z : ow_MS} {Q : (Int32 × ow_MS) → Prop} (H : Tt (fun K k => qm_X13_colourFaces_2 K (q_X13_colourFaces K k) x2 x3 x4 x5 x6 x7 r1 t0 t1 z) Q) : Tt (fun K k => q_X13_colourFaces K k 2 x2 x3 x4 x5 x6 x7 r1 t0 t1 z) Q := w_un (fun _ _ => rfl) H
theorem u_X13_colourFaces_7 {x2 : Int32} {x3 : Int32} {x4 : Int32} {x5 : Int32} {x6 : Int32} {x7 : Int32} {r1 : Nat} {t0 : Int32} {t1 : Int32} {z : ow_MS} {Q : (Int32 × ow_MS) → Prop} (H : Tt (fun K k => qm_X13_colourFaces_7 K (q_X13_colourFaces K k) x2 x3 x4 x5 x6 x7 r1 t0 t1 z) Q) : Tt (fun K k => q_X13_colourFaces K k 7 x2 x3 x4 x5 x6 x7 r1 t0 t1 z) Q := w_un (fun _ _ => rfl) H
theorem u_X13_colourFaces_5 {x2 : Int32} {x3 : Int32} {x4 : Int32} {x5 : Int32} {x6 : Int32} {x7 : Int32} {r1 : Nat} {t0 : Int32} {t1 : Int32} {z : ow_MS} {Q : (Int32 × ow_MS) → Prop} (H : Tt (fun K k => qm_X13_colourFaces_5 K (q_X13_colourFaces K k) x2 x3 x4 x5 x6 x7 r1 t0 t1 z) Q) : Tt (fun K k => q_X13_colourFaces K k 5 x2 x3 x4 x5 x6 x7 r1 t0 t1 z) Q := w_un (fun _ _ => rfl) H
theorem u_X13_colourFaces_6 {x2 : Int32} {x3 : Int32} {x4 : Int32} {x5 : Int32} {x6 : Int32} {x7 : Int32} {r1 : Nat} {t0 : Int32} {t1 : Int32} {z : ow_MS} {Q : (Int32 × ow_MS) → Prop} (H : Tt (fun K k => qm_X13_colourFaces_6 K (q_X13_colourFaces K k) x2 x3 x4 x5 x6 x7 r1 t0 t1 z) Q) : Tt (fun K k => q_X13_colourFaces K k 6 x2 x3 x4 x5 x6 x7 r1 t0 t1 z) Q := w_un (fun _ _ => rfl) H
theorem u_X13_colourFaces_4 {x2 : Int32} {x3 : Int32} {x4 : Int32} {x5 : Int32} {x6 : Int32} {x7 : Int32} {r1 : Nat} {t0 : Int32} {t1 : Int32} {z : ow_MS} {Q : (Int32 × ow_MS) → Prop} (H : Tt (fun K k => qm_X13_colourFaces_4 K (q_X13_colourFaces K k) x2 x3 x4 x5 x6 x7 r1 t0 t1 z) Q) : Tt (fun K k => q_X13_colourFaces K k 4 x2 x3 x4 x5 x6 x7 r1 t0 t1 z) Q := w_un (fun _ _ => rfl) H
theorem u_X13_colourFaces_1 {x2 : Int32} {x3 : Int32} {x4 : Int32} {x5 : Int32} {x6 : Int32} {x7 : Int32} {r1 : Nat} {t0 : Int32} {t1 : Int32} {z : ow_MS} {Q : (Int32 × ow_MS) → Prop} (H : Tt (fun K k => qm_X13_colourFaces_1 K (q_X13_colourFaces K k) x2 x3 x4 x5 x6 x7 r1 t0 t1 z) Q) : Tt (fun K k => q_X13_colourFaces K k 1 x2 x3 x4 x5 x6 x7 r1 t0 t1 z) Q := w_un (fun _ _ => rfl) H
theorem e_X13_colourFaces {r1 : Nat} {x2 : Int32} {z : ow_MS} {Q : (Int32 × ow_MS) → Prop} (H : Tt (fun K k => q_X13_colourFaces K k 0 x2 0 0 0 0 0 r1 0 0 z) Q) : Te (fun K => qe_X13_colourFaces K r1 x2 z) Q := w_te H
theorem u_X13_colourFaces_0 {x2 : Int32} {x3 : Int32} {x4 : Int32} {x5 : Int32} {x6 : Int32} {x7 : Int32} {r1 : Nat} {t0 : Int32} {t1 : Int32} {z : ow_MS} {Q : (Int32 × ow_MS) → Prop} (H : Tt (fun K k => qm_X13_colourFaces_0 K (q_X13_colourFaces K k) x2 x3 x4 x5 x6 x7 r1 t0 t1 z) Q) : Tt (fun K k => q_X13_colourFaces K k 0 x2 x3 x4 x5 x6 x7 r1 t0 t1 z) Q := w_un (fun _ _ => rfl) H
theorem tp_colour {n F P p v0 c : Nat} {A : rn_L} {sg : Nat → Bool} (hn : mw_net n) (hok : okF A.flatten c) (hc : c ≤ 12) (hI : fcI z n A sg F P) (hp : p < P) (hv0 : inP A (z.2.1 (n + 12)) p v0) (h53 : ∀ f, f < 80 → inR z 53 f 16) : Te (fun K => qe_X13_colourFaces K n (nI v0) z) (fun r => (∃ k, 1 ≤ k ∧ k ≤ 14 ∧ r.1 = nI k) ∧ fr (fun g => g = 52 ∨ g = 53) z r.2 ∧ ∀ f, f < 80 → inR r.2 53 f 16) := by
  have hV := okF_len hok
  have hmn := net_mod hn
  have hd := wkF_ok hI.1.wk
  have hC := hI.1.2.2.2
  obtain ⟨q1, q2, q3, q4⟩ := hI.2.1
  let Q : Int32 × ow_MS → Prop := fun r => (∃ k, 1 ≤ k ∧ k ≤ 14 ∧ r.1 = nI k) ∧ fr (fun g => g = 52 ∨ g = 53) z r.2 ∧ ∀ f, f < 80 → inR r.2 53 f 16
  have iF : ∀ {y : ow_MS}, fr (fun g => g = 52 ∨ g = 53) z y → fcI y n A sg F P := fun hf => fcI_fr hn hf (fun g hg => by omega) hI
  have e14 : ∀ {y : ow_MS}, fr (fun g => g = 52 ∨ g = 53) z y → y.2.1 (n + 14) = z.2.1 (n + 14) := fun hf => (hf (n + 14) (by omega)).2.1
  have e12 : ∀ {y : ow_MS}, fr (fun g => g = 52 ∨ g = 53) z y → y.2.1 (n + 12) = z.2.1 (n + 12) := fun hf => (hf (n + 12) (by omega)).2.1
  obtain ⟨f0, hf0, ef0⟩ := q3 (2 * v0) (by have := hv0.1; omega)
  -- how many faces the part has
  obtain ⟨R, hR, hRin⟩ := euler (sg := sg) (f := fun s => (z.2.1 (n + 14) s).toNatClampNeg) hok (by omega) hI.2.2.2.2.2.1 hp (fun s hs => by
    obtain ⟨f1, hf1, e1⟩ := q3 s hs
    have := (hI.2.2.1 f1 hf1 s hs).mp e1
    show (z.2.1 (n + 14) (phi A sg s)).toNatClampNeg = (z.2.1 (n + 14) s).toNatClampNeg
    rw [this, e1]) hv0
  have c8 : ∀ (d f : Nat) (x3 x4 : Int32) (y : ow_MS), f + d = F → fr (fun g => g = 52 ∨ g = 53) z y → clI y n A p f0 → (∀ f, f < 80 → inR y 53 f 16) → Tt (fun K i => q_X13_colourFaces K i 8 (nI v0) x3 x4 (nI ((List.range f).filter (fun g => decide (y.2.1 52 g = 1))).length) (nI f) 0 n 0 0 y) Q := by
    have bnd : ∀ (f : Nat) (y : ow_MS), f ≤ F → fr (fun g => g = 52 ∨ g = 53) z y → clI y n A p f0 → ((List.range f).filter (fun g => decide (y.2.1 52 g = 1))).length ≤ 14 := by
      intro f y hfF hf hcl
      have := nodup_le ((List.range f).filter (fun g => decide (y.2.1 52 g = 1))) R (List.nodup_range.filter _) (fun g hg => by
        obtain ⟨g1, g2⟩ := List.mem_filter.mp hg
        have g1 := List.mem_range.mp g1
        have g2 := of_decide_eq_true g2
        obtain ⟨cc, k1, k2, k3⟩ := hcl.1 g (by omega)
        obtain ⟨s, s1, s2⟩ := k3 (fun e => by rw [e, g2] at k2; exact absurd k2 (by decide))
        rw [e12 hf] at s1
        rw [e14 hf] at s2
        have := hRin s s1
        simp only [s2, nI_clamp (show g < 2 ^ 31 by omega)] at this
        exact this)
      omega
    intro d
    induction d with
    | zero =>
      intro f x3 x4 y hfF hf hcl hw
      have hfF : f = F := by omega
      subst hfF
      refine u_X13_colourFaces_8 ?_; unfold qm_X13_colourFaces_8
      refine w_rdF (iF hf).2.1.1 (w_leT (by omega) (by omega) (w_some ⟨⟨_, ?_, bnd f y (Nat.le_refl _) hf hcl, rfl⟩, hf, hw⟩))
      exact List.length_pos_of_mem (List.mem_filter.mpr ⟨List.mem_range.mpr hf0, decide_eq_true hcl.2⟩)
    | succ d ih =>
      intro f x3 x4 y hfF hf hcl hw
      have hb := bnd (f + 1) y (by omega) hf hcl
      have hs : ((List.range (f + 1)).filter (fun g => decide (y.2.1 52 g = 1))).length = ((List.range f).filter (fun g => decide (y.2.1 52 g = 1))).length + if y.2.1 52 f = 1 then 1 else 0 := by
        rw [List.range_succ, List.filter_append, List.length_append]
        by_cases h : y.2.1 52 f = 1
        · rw [if_pos h, List.filter_cons_of_pos (p := fun g => decide (y.2.1 52 g = 1)) (decide_eq_true h)]
          rfl
        · rw [if_neg h, List.filter_cons_of_neg (p := fun g => decide (y.2.1 52 g = 1)) (by simpa using h)]
          rfl
      rw [hs] at hb
      refine u_X13_colourFaces_8 ?_; unfold qm_X13_colourFaces_8
      refine w_rdF (iF hf).2.1.1 (w_leF (by omega) (by omega) (w_rdI ml52 rfl (by omega) rfl (w_if (fun h9 => w_wrI ml53 rfl (by omega) ?_) (fun h9 => ?_))))
      · rw [if_pos h9] at hs hb
        refine u_X13_colourFaces_9 ?_; unfold qm_X13_colourFaces_9
        rw [nI_1, nI_1, ← hs]
        refine ih (f + 1) x3 x4 (usI y 53 f _) (by omega) (fr_I2 hf (Or.inr rfl)) ⟨fun g hg => ?_, rd_ot (by omega) hcl.2⟩ (fun g hg => inR_keep (hw g hg) ⟨_, by omega, rfl⟩)
        obtain ⟨cc, k1, k2, k3⟩ := hcl.1 g hg
        refine ⟨cc, k1, rd_ot (by omega) k2, fun h8 => ?_⟩
        obtain ⟨s, s1, s2⟩ := k3 h8
        exact ⟨s, by rw [po_usI_ot (by omega)]; exact s1, by rw [po_usI_ot (by omega)]; exact s2⟩
      · rw [if_neg h9] at hs
        refine u_X13_colourFaces_9 ?_; unfold qm_X13_colourFaces_9
        rw [nI_1]
        have := ih (f + 1) x3 x4 y (by omega) hf hcl hw
        rw [hs] at this
        exact this
  have c2 : ∀ (m : Nat) (x4 : Int32) (y : ow_MS), zeC y ≤ m → fr (fun g => g = 52) z y → clI y n A p f0 → x4 = 1 → Tt (fun K i => q_X13_colourFaces K i 2 (nI v0) (nI p) x4 0 0 0 n 0 0 y) Q := by
    intro m
    induction m using Nat.strongRecOn with
    | ind m ih =>
    intro x4 y hm hf hcl hx4
    have hfm : ∀ {y : ow_MS}, fr (fun g => g = 52) z y → fr (fun g => g = 52 ∨ g = 53) z y := fun h => fr_mono (fun g hg => Or.inl hg) h
    have pass : ∀ (d g : Nat) (x4 : Int32) (y1 : ow_MS), g + d = A.flatten.length → fr (fun g => g = 52) z y1 → clI y1 n A p f0 → (x4 = 0 ∨ x4 = 1 ∧ zeC y1 < zeC y) → zeC y1 ≤ zeC y → Tt (fun K i => q_X13_colourFaces K i 3 (nI v0) (nI p) x4 (nI g) 0 0 n 0 0 y1) Q := by
      intro d
      induction d with
      | zero =>
        intro g x4 y1 hg hf hcl h4 hz
        refine u_X13_colourFaces_3 ?_; unfold qm_X13_colourFaces_3
        refine w_rdF (iF (hfm hf)).1.1.V (w_leT (by omega) (by omega) ?_)
        rcases h4 with h4 | ⟨h4, h5⟩
        · rw [h4]
          refine u_X13_colourFaces_2 ?_; unfold qm_X13_colourFaces_2
          exact w_ifT rfl (c8 F 0 _ _ y1 (by omega) (hfm hf) hcl (fun f hf9 => inR_fr hf (by omega) (h53 f hf9)))
        · exact ih (zeC y1) (by omega) x4 y1 (Nat.le_refl _) hf hcl h4
      | succ d ihp =>
        intro g x4 y1 hg hf hcl h4 hz
        have hgl : g < A.flatten.length := by omega
        have hcc := (rn_c_in A g hgl).1
        have hI1 := iF (hfm hf)
        obtain ⟨fl, hfl, efl⟩ := hI1.2.1.2.2.1 (2 * g) (by omega)
        obtain ⟨fr0, hfr, efr⟩ := hI1.2.1.2.2.1 (2 * g + 1) (by omega)
        have c7 : ∀ (x4 x6 x7 : Int32) (y1 : ow_MS), fr (fun g => g = 52) z y1 → clI y1 n A p f0 → (x4 = 0 ∨ x4 = 1 ∧ zeC y1 < zeC y) → zeC y1 ≤ zeC y → Tt (fun K i => q_X13_colourFaces K i 7 (nI v0) (nI p) x4 (nI g) x6 x7 n 0 0 y1) Q := by
          intro x4 x6 x7 y1 hf hcl h4 hz
          refine u_X13_colourFaces_7 ?_; unfold qm_X13_colourFaces_7
          rw [nI_1]
          exact ihp (g + 1) x4 y1 (by omega) hf hcl h4 hz
        obtain ⟨cl, l1, l2, l3⟩ := hcl.1 fl (by omega)
        obtain ⟨cr, r1, r2, r3⟩ := hcl.1 fr0 (by omega)
        -- a face gets a colour
        have put : ∀ (f cc : Nat) (s : Nat), f < 80 → y1.2.1 52 f = 0 → cc ≤ 2 → cc ≠ 0 → inP A (y1.2.1 (n + 12)) p (s / 2) → y1.2.1 (n + 14) s = nI f → clI (usI y1 52 f (nI cc)) n A p f0 ∧ zeC (usI y1 52 f (nI cc)) < zeC y := by
          intro f cc s hf80 h0 hc2 hc0 hs1 hs2
          refine ⟨⟨fun f' hf' => ?_, ?_⟩, Nat.lt_of_lt_of_le (zeC_lt hf80 h0 (fun e => hc0 ((nI_eq (by omega) (by omega)).mp (e.trans nI_0.symm)))) hz⟩
          · by_cases hff : f' = f
            · rw [hff]
              exact ⟨cc, hc2, po_usI_at, fun _ => ⟨s, by rw [po_usI_ot (by omega)]; exact hs1, by rw [po_usI_ot (by omega)]; exact hs2⟩⟩
            · obtain ⟨c9, k1, k2, k3⟩ := hcl.1 f' hf'
              refine ⟨c9, k1, rd_ne hff k2, fun h8 => ?_⟩
              obtain ⟨s, s1, s2⟩ := k3 h8
              exact ⟨s, by rw [po_usI_ot (by omega)]; exact s1, by rw [po_usI_ot (by omega)]; exact s2⟩
          · have hff : f0 ≠ f := fun e => by
              rw [← e, hcl.2] at h0
              exact absurd h0 (by decide)
            exact rd_ne hff hcl.2
        refine u_X13_colourFaces_3 ?_; unfold qm_X13_colourFaces_3
        rw [show (2 : Int32) * nI g = nI (2 * g) from rn_mul2, show nI (2 * g) + 1 = nI (2 * g + 1) from nI_1 _]
        refine w_rdF hI1.1.1.V (w_leF (by omega) hgl (w_rdI (pl14 hn) rfl (by omega) efl (w_rdI (pl14 hn) rfl (by omega) efr (w_rdI (pl8 hn) rfl (by omega) (lk_c hI1.1.1 hgl) (w_rdI (pl12 hn) rfl (by omega) rfl (w_if (fun hpp => ?_) (fun _ => c7 _ _ _ y1 hf hcl h4 hz)))))))
        have hgP : inP A (y1.2.1 (n + 12)) p g := ⟨hgl, hpp⟩
        have c5 : ∀ (t0 t1 : Int32), (t1 = if cl = 0 then 1 else 0) → (t0 = if cr = 0 then 1 else 0) → Tt (fun K i => q_X13_colourFaces K i 5 (nI v0) (nI p) x4 (nI g) (nI fl) (nI fr0) n t0 t1 y1) Q := by
          intro t0 t1 ht1 ht0
          refine u_X13_colourFaces_5 ?_; unfold qm_X13_colourFaces_5
          refine w_if (fun _ => c7 _ _ _ y1 hf hcl h4 hz) (fun hne => w_rdI ml52 rfl (by omega) l2 (w_eqN (b := 0) (by omega) (by omega) (fun hl0 => ?_) (fun hl0 => ?_)))
          · have hr0 : cr ≠ 0 := fun e => hne (by rw [ht1, ht0, if_pos hl0, if_pos e])
            rw [hl0] at l2
            obtain ⟨k1, k2⟩ := put fl (3 - cr) (2 * g) (by omega) l2 (by omega) (by omega) (by rw [show 2 * g / 2 = g by omega]; exact hgP) efl
            refine w_rdI ml52 rfl (by omega) r2 ?_
            rw [three_sub r1 hr0]
            refine w_wrI ml52 rfl (by omega) ?_
            refine u_X13_colourFaces_6 ?_; unfold qm_X13_colourFaces_6
            exact c7 1 _ _ _ (fr_I2 hf rfl) k1 (Or.inr ⟨rfl, k2⟩) (Nat.le_of_lt k2)
          · have hr0 : cr = 0 := Classical.byContradiction (fun e => hne (by rw [ht1, ht0, if_neg hl0, if_neg e]))
            rw [hr0] at r2
            obtain ⟨k1, k2⟩ := put fr0 (3 - cl) (2 * g + 1) (by omega) r2 (by omega) (by omega) (by rw [show (2 * g + 1) / 2 = g by omega]; exact hgP) efr
            refine w_rdI ml52 rfl (by omega) l2 ?_
            rw [three_sub l1 hl0]
            refine w_wrI ml52 rfl (by omega) ?_
            refine u_X13_colourFaces_6 ?_; unfold qm_X13_colourFaces_6
            exact c7 1 _ _ _ (fr_I2 hf rfl) k1 (Or.inr ⟨rfl, k2⟩) (Nat.le_of_lt k2)
        have c4 : ∀ (t0 : Int32), (t0 = if cl = 0 then 1 else 0) → Tt (fun K i => q_X13_colourFaces K i 4 (nI v0) (nI p) x4 (nI g) (nI fl) (nI fr0) n t0 0 y1) Q := by
          intro t0 ht0
          refine u_X13_colourFaces_4 ?_; unfold qm_X13_colourFaces_4
          exact w_rdI ml52 rfl (by omega) r2 (w_eqN (b := 0) (by omega) (by omega) (fun h9 => c5 _ _ ht0 (if_pos h9).symm) (fun h9 => c5 _ _ ht0 (if_neg h9).symm))
        exact w_rdI ml52 rfl (by omega) l2 (w_eqN (b := 0) (by omega) (by omega) (fun h9 => c4 _ (if_pos h9).symm) (fun h9 => c4 _ (if_neg h9).symm))
    rw [hx4]
    refine u_X13_colourFaces_2 ?_; unfold qm_X13_colourFaces_2
    exact w_ifF (by decide) (pass A.flatten.length 0 0 y (by omega) hf hcl (Or.inl rfl) (Nat.le_refl _))
  have c1 : ∀ (d i : Nat) (y : ow_MS), i + d = 80 → fr (fun g => g = 52) z y → (∀ f, f < i → y.2.1 52 f = 0) → Tt (fun K t => q_X13_colourFaces K t 1 (nI v0) (nI p) (nI i) 0 0 0 n 0 0 y) Q := by
    intro d
    induction d with
    | zero =>
      intro i y hi hf h0
      have e14' : y.2.1 (n + 14) = z.2.1 (n + 14) := (hf (n + 14) (by omega)).2.1
      have e12' : y.2.1 (n + 12) = z.2.1 (n + 12) := (hf (n + 12) (by omega)).2.1
      have hv0l := hv0.1
      refine u_X13_colourFaces_1 ?_; unfold qm_X13_colourFaces_1
      rw [show (2 : Int32) * nI v0 = nI (2 * v0) from rn_mul2]
      refine w_leT (a := 80) (by omega) (by omega) (w_rdI (pl14 hn) rfl (by omega) (by rw [e14']; exact ef0) (w_wrI ml52 rfl (by omega) (c2 _ 1 _ (Nat.le_refl _) (fr_I2 hf rfl) ⟨fun f hf80 => ?_, po_usI_at⟩ rfl)))
      by_cases hff : f = f0
      · rw [hff]
        exact ⟨1, by omega, po_usI_at, fun _ => ⟨2 * v0, by rw [po_usI_ot (by omega), e12', show 2 * v0 / 2 = v0 by omega]; exact hv0, by rw [po_usI_ot (by omega), e14']; exact ef0⟩⟩
      · exact ⟨0, by omega, rd_ne hff (h0 f (by omega)), fun h9 => absurd rfl h9⟩
    | succ d ih =>
      intro i y hi hf h0
      refine u_X13_colourFaces_1 ?_; unfold qm_X13_colourFaces_1
      rw [nI_1]
      refine w_leF (a := 80) (by omega) (by omega) (w_wrI ml52 rfl (by omega) (ih (i + 1) _ (by omega) (fr_I2 hf rfl) (fun f h9 => ?_)))
      by_cases hfi : f = i
      · rw [hfi, po_usI_at]
      · exact rd_ne hfi (h0 f (by omega))
  have hv0l := hv0.1
  have hcc0 := (rn_c_in A v0 hv0l).1
  refine e_X13_colourFaces ?_
  refine u_X13_colourFaces_0 ?_; unfold qm_X13_colourFaces_0
  exact w_rdI (pl8 hn) rfl (by omega) (lk_c hI.1.1 hv0.1) (w_rdI (pl12 hn) rfl (by omega) hv0.2 (c1 80 0 z (by omega) fr_rf (fun f hf => absurd hf (by omega))))
end SIG
