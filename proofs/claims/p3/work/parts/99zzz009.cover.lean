section
/-! 99zzzn.cover -/
/-! cover and colours have an answer -/
theorem cmp_0 {x y : Int64} : lg_cmp x y = 0 ↔ x = y := by
  unfold lg_cmp
  by_cases h : x > y
  · rw [if_pos h]
    refine ⟨fun e => absurd e (by decide), fun e => ?_⟩
    rw [e] at h
    exact absurd h (Int64.lt_irrefl)
  · rw [if_neg h]
    by_cases e : x = y
    · rw [if_pos e]; exact ⟨fun _ => e, fun _ => rfl⟩
    · rw [if_neg e]; exact ⟨fun h9 => absurd h9 (by decide), fun h9 => absurd h9 e⟩
theorem rem_64 {a b : Int64} (hb : b ≠ 0) : (a - a / b * b).toInt = a.toInt.tmod b.toInt := by
  have hb2 : b.toInt ≠ 0 := fun e => hb (Int64.toInt_inj.mp e)
  rw [Int64.toInt_sub, Int64.toInt_mul, Int64.toInt_div]
  simp only [Int.sub_bmod_bmod, Int.bmod_mul_bmod]
  rw [show a.toInt - a.toInt.tdiv b.toInt * b.toInt = a.toInt.tmod b.toInt from by rw [Int.tmod_def, Int.mul_comm]]
  have h1 := Int64.le_toInt a
  have h2 := Int64.toInt_lt a
  have h3 := Int.natAbs_tmod a.toInt b.toInt
  have h4 : a.toInt.natAbs % b.toInt.natAbs ≤ a.toInt.natAbs := Nat.mod_le _ _
  have h5 : a.toInt.natAbs % b.toInt.natAbs < b.toInt.natAbs := Nat.mod_lt _ (by omega)
  have h6 := Int64.le_toInt b
  have h7 := Int64.toInt_lt b
  exact Int.bmod_eq_of_le (by omega) (by omega)
theorem usJ_at {z : ow_MS} {h i : Nat} {x : Int64} : (usJ z h i x).2.2 h i = x := by
  simp [usJ, vp_updL]
theorem usJ_ne {z : ow_MS} {h i j : Nat} {x : Int64} (hj : j ≠ i) : (usJ z h i x).2.2 h j = z.2.2 h j := by
  simp [usJ, vp_updL, hj]
section COV
variable {X : (Nat → Nat → Int32) → Prop} {z : ow_MS}
theorem u_X13_gcd_1 {w0 : Int64} {w2 : Int64} {w4 : Int64} {w6 : Int64} {z : ow_MS} {Q : (Int64 × ow_MS) → Prop} (H : Tt (fun K k => qm_X13_gcd_1 K (q_X13_gcd K k) w0 w2 w4 w6 z) Q) : Tt (fun K k => q_X13_gcd K k 1 w0 w2 w4 w6 z) Q := w_un (fun _ _ => rfl) H
theorem e_X13_gcd {w0 : Int64} {w2 : Int64} {z : ow_MS} {Q : (Int64 × ow_MS) → Prop} (H : Tt (fun K k => q_X13_gcd K k 0 w0 w2 0 0 z) Q) : Te (fun K => qe_X13_gcd K w0 w2 z) Q := w_te H
theorem u_X13_gcd_0 {w0 : Int64} {w2 : Int64} {w4 : Int64} {w6 : Int64} {z : ow_MS} {Q : (Int64 × ow_MS) → Prop} (H : Tt (fun K k => qm_X13_gcd_0 K (q_X13_gcd K k) w0 w2 w4 w6 z) Q) : Tt (fun K k => q_X13_gcd K k 0 w0 w2 w4 w6 z) Q := w_un (fun _ _ => rfl) H
theorem tp_gcd {a b : Int64} : Te (fun K => qe_X13_gcd K a b z) (fun r => r.2 = z) := by
  have key : ∀ (m : Nat) (x y : Int64), y.toInt.natAbs ≤ m → Tt (fun K i => q_X13_gcd K i 1 a b x y z) (fun r => r.2 = z) := by
    intro m
    induction m with
    | zero =>
      intro x y hy
      have hy : y = 0 := Int64.toInt_inj.mp (by show y.toInt = 0; omega)
      refine u_X13_gcd_1 ?_; unfold qm_X13_gcd_1
      exact w_ifT (cmp_0.mpr hy) (w_some rfl)
    | succ m ih =>
      intro x y hy
      refine u_X13_gcd_1 ?_; unfold qm_X13_gcd_1
      refine w_if (fun _ => w_some rfl) (fun h9 => ?_)
      have hy0 : y ≠ 0 := fun e => h9 (cmp_0.mpr e)
      refine w_nzJ hy0 (ih _ _ ?_)
      have hb2 : y.toInt ≠ 0 := fun e => hy0 (Int64.toInt_inj.mp e)
      have h3 := Int.natAbs_tmod x.toInt y.toInt
      have h5 : x.toInt.natAbs % y.toInt.natAbs < y.toInt.natAbs := Nat.mod_lt _ (by omega)
      rw [rem_64 hy0]
      omega
  refine e_X13_gcd ?_
  refine u_X13_gcd_0 ?_; unfold qm_X13_gcd_0
  exact key _ a b (Nat.le_refl _)
/-- the place in the grid -/
theorem gr_ix {x y : Nat} : (24 : Int32) * nI x + nI y = nI (24 * x + y) := by
  rw [show (24 : Int32) * nI x = nI (24 * x) from pk_mul 24 x, nI_add]
theorem sq_ix {x y : Nat} : (13 : Int32) * nI x + nI y = nI (13 * x + y) := by
  rw [show (13 : Int32) * nI x = nI (13 * x) from pk_mul 13 x, nI_add]
theorem u_X13_unit_7 {x1 : Int32} {x2 : Int32} {x3 : Int32} {x4 : Int32} {x5 : Int32} {x6 : Int32} {z : ow_MS} {Q : (Int32 × ow_MS) → Prop} (H : Tt (fun K k => qm_X13_unit_7 K (q_X13_unit K k) x1 x2 x3 x4 x5 x6 z) Q) : Tt (fun K k => q_X13_unit K k 7 x1 x2 x3 x4 x5 x6 z) Q := w_un (fun _ _ => rfl) H
theorem u_X13_unit_6 {x1 : Int32} {x2 : Int32} {x3 : Int32} {x4 : Int32} {x5 : Int32} {x6 : Int32} {z : ow_MS} {Q : (Int32 × ow_MS) → Prop} (H : Tt (fun K k => qm_X13_unit_6 K (q_X13_unit K k) x1 x2 x3 x4 x5 x6 z) Q) : Tt (fun K k => q_X13_unit K k 6 x1 x2 x3 x4 x5 x6 z) Q := w_un (fun _ _ => rfl) H
theorem u_X13_unit_5 {x1 : Int32} {x2 : Int32} {x3 : Int32} {x4 : Int32} {x5 : Int32} {x6 : Int32} {z : ow_MS} {Q : (Int32 × ow_MS) → Prop} (H : Tt (fun K k => qm_X13_unit_5 K (q_X13_unit K k) x1 x2 x3 x4 x5 x6 z) Q) : Tt (fun K k => q_X13_unit K k 5 x1 x2 x3 x4 x5 x6 z) Q := w_un (fun _ _ => rfl) H
theorem u_X13_unit_1 {x1 : Int32} {x2 : Int32} {x3 : Int32} {x4 : Int32} {x5 : Int32} {x6 : Int32} {z : ow_MS} {Q : (Int32 × ow_MS) → Prop} (H : Tt (fun K k => qm_X13_unit_1 K (q_X13_unit K k) x1 x2 x3 x4 x5 x6 z) Q) : Tt (fun K k => q_X13_unit K k 1 x1 x2 x3 x4 x5 x6 z) Q := w_un (fun _ _ => rfl) H
theorem u_X13_unit_4 {x1 : Int32} {x2 : Int32} {x3 : Int32} {x4 : Int32} {x5 : Int32} {x6 : Int32} {z : ow_MS} {Q : (Int32 × ow_MS) → Prop} (H : Tt (fun K k => qm_X13_unit_4 K (q_X13_unit K k) x1 x2 x3 x4 x5 x6 z) Q) : Tt (fun K k => q_X13_unit K k 4 x1 x2 x3 x4 x5 x6 z) Q := w_un (fun _ _ => rfl) H
theorem u_X13_unit_2 {x1 : Int32} {x2 : Int32} {x3 : Int32} {x4 : Int32} {x5 : Int32} {x6 : Int32} {z : ow_MS} {Q : (Int32 × ow_MS) → Prop} (H : Tt (fun K k => qm_X13_unit_2 K (q_X13_unit K k) x1 x2 x3 x4 x5 x6 z) Q) : Tt (fun K k => q_X13_unit K k 2 x1 x2 x3 x4 x5 x6 z) Q := w_un (fun _ _ => rfl) H
theorem u_X13_unit_3 {x1 : Int32} {x2 : Int32} {x3 : Int32} {x4 : Int32} {x5 : Int32} {x6 : Int32} {z : ow_MS} {Q : (Int32 × ow_MS) → Prop} (H : Tt (fun K k => qm_X13_unit_3 K (q_X13_unit K k) x1 x2 x3 x4 x5 x6 z) Q) : Tt (fun K k => q_X13_unit K k 3 x1 x2 x3 x4 x5 x6 z) Q := w_un (fun _ _ => rfl) H
theorem e_X13_unit {x1 : Int32} {x2 : Int32} {z : ow_MS} {Q : (Int32 × ow_MS) → Prop} (H : Tt (fun K k => q_X13_unit K k 0 x1 x2 0 0 0 0 z) Q) : Te (fun K => qe_X13_unit K x1 x2 z) Q := w_te H
theorem u_X13_unit_0 {x1 : Int32} {x2 : Int32} {x3 : Int32} {x4 : Int32} {x5 : Int32} {x6 : Int32} {z : ow_MS} {Q : (Int32 × ow_MS) → Prop} (H : Tt (fun K k => qm_X13_unit_0 K (q_X13_unit K k) x1 x2 x3 x4 x5 x6 z) Q) : Tt (fun K k => q_X13_unit K k 0 x1 x2 x3 x4 x5 x6 z) Q := w_un (fun _ _ => rfl) H
theorem tp_unit {t c a : Nat} (ht : t < c) (hc : c ≤ 12) (hta : t < a) (ha : a ≤ 18) (h58 : z.1 58 = nI a) : Te (fun K => qe_X13_unit K (nI t) (nI c) z) (fun r => fr (fun g => g = 64) z r.2) := by
  let Q : Int32 × ow_MS → Prop := fun r => fr (fun g => g = 64) z r.2
  have aF : ∀ {y : ow_MS}, fr (fun g => g = 64) z y → y.1 58 = nI a := fun hf => by rw [(hf 58 (by omega)).1]; exact h58
  have c7 : ∀ (d i r s : Nat) (y : ow_MS), i + d = c → r < c → s < a → fr (fun g => g = 64) z y → Tt (fun K k => q_X13_unit K k 7 (nI t) (nI c) (nI r) (nI s) (nI i) 0 y) Q := by
    intro d
    induction d with
    | zero =>
      intro i r s y hi hr hs hf
      refine u_X13_unit_7 ?_; unfold qm_X13_unit_7
      exact w_leT (by omega) (by omega) (w_okZ (Or.inr rfl) (w_some hf))
    | succ d ih =>
      intro i r s y hi hr hs hf
      refine u_X13_unit_7 ?_; unfold qm_X13_unit_7
      rw [nI_1, gr_ix, gr_ix]
      exact w_leF (by omega) (by omega) (w_rdJ ml64 rfl (by omega) rfl (w_rdJ ml64 rfl (by omega) rfl (w_wrJ ml64 rfl (by omega) (w_wrJ ml64 rfl (by omega) (ih (i + 1) r s _ (by omega) hr hs (fr_J2 (fr_J2 hf rfl) rfl))))))
  have c6 : ∀ (d i r s : Nat) (y : ow_MS), i + d = a → r < c → s < a → fr (fun g => g = 64) z y → Tt (fun K k => q_X13_unit K k 6 (nI t) (nI c) (nI r) (nI s) (nI i) 0 y) Q := by
    intro d
    induction d with
    | zero =>
      intro i r s y hi hr hs hf
      refine u_X13_unit_6 ?_; unfold qm_X13_unit_6
      exact w_rdF (aF hf) (w_leT (by omega) (by omega) (c7 c 0 r s y (by omega) hr hs hf))
    | succ d ih =>
      intro i r s y hi hr hs hf
      refine u_X13_unit_6 ?_; unfold qm_X13_unit_6
      rw [nI_1, gr_ix, gr_ix]
      exact w_rdF (aF hf) (w_leF (by omega) (by omega) (w_rdJ ml64 rfl (by omega) rfl (w_rdJ ml64 rfl (by omega) rfl (w_wrJ ml64 rfl (by omega) (w_wrJ ml64 rfl (by omega) (ih (i + 1) r s _ (by omega) hr hs (fr_J2 (fr_J2 hf rfl) rfl)))))))
  have c5 : ∀ (x3 x4 x5 : Int32), (x3 = -1 ∨ ∃ r s, x3 = nI r ∧ r < c ∧ x4 = nI s ∧ s < a) → Tt (fun K k => q_X13_unit K k 5 (nI t) (nI c) x3 x4 x5 0 z) Q := by
    intro x3 x4 x5 h
    refine u_X13_unit_5 ?_; unfold qm_X13_unit_5
    refine w_if (fun _ => w_okZ (Or.inl rfl) (w_some fr_rf)) (fun h9 => ?_)
    rcases h with h | ⟨r, s, rfl, hr, rfl, hs⟩
    · exact absurd h h9
    · exact c6 a 0 r s z (by omega) hr hs fr_rf
  have c1 : ∀ (d i : Nat) (x3 x4 : Int32), i + d = c → (x3 = -1 ∨ ∃ r s, x3 = nI r ∧ r < c ∧ x4 = nI s ∧ s < a) → Tt (fun K k => q_X13_unit K k 1 (nI t) (nI c) x3 x4 (nI i) 0 z) Q := by
    intro d
    induction d with
    | zero =>
      intro i x3 x4 hi h
      refine u_X13_unit_1 ?_; unfold qm_X13_unit_1
      exact w_leT (by omega) (by omega) (c5 _ _ _ h)
    | succ d ih =>
      intro i x3 x4 hi h
      have c4 : ∀ (x3 x4 x6 : Int32), (x3 = -1 ∨ ∃ r s, x3 = nI r ∧ r < c ∧ x4 = nI s ∧ s < a) → Tt (fun K k => q_X13_unit K k 4 (nI t) (nI c) x3 x4 (nI i) x6 z) Q := by
        intro x3 x4 x6 h
        refine u_X13_unit_4 ?_; unfold qm_X13_unit_4
        rw [nI_1]
        exact ih (i + 1) x3 x4 (by omega) h
      have c2 : ∀ (d j : Nat) (x3 x4 : Int32), j + d = a → (x3 = -1 ∨ ∃ r s, x3 = nI r ∧ r < c ∧ x4 = nI s ∧ s < a) → Tt (fun K k => q_X13_unit K k 2 (nI t) (nI c) x3 x4 (nI i) (nI j) z) Q := by
        intro d
        induction d with
        | zero =>
          intro j x3 x4 hj h
          refine u_X13_unit_2 ?_; unfold qm_X13_unit_2
          exact w_rdF h58 (w_leT (by omega) (by omega) (c4 _ _ _ h))
        | succ d ih2 =>
          intro j x3 x4 hj h
          refine u_X13_unit_2 ?_; unfold qm_X13_unit_2
          rw [gr_ix]
          refine w_rdF h58 (w_leF (by omega) (by omega) (w_if (fun h9 => w_rdJ ml64 rfl (by omega) rfl (w_if (fun _ => ?_) (fun _ => ?_))) (fun _ => c4 _ _ _ h)))
          · refine u_X13_unit_3 ?_; unfold qm_X13_unit_3
            rw [nI_1]
            exact ih2 (j + 1) _ _ (by omega) (Or.inr ⟨i, j, rfl, by omega, rfl, by omega⟩)
          · refine u_X13_unit_3 ?_; unfold qm_X13_unit_3
            rw [nI_1]
            exact ih2 (j + 1) _ _ (by omega) h
      refine u_X13_unit_1 ?_; unfold qm_X13_unit_1
      exact w_leF (by omega) (by omega) (w_if (fun _ => c2 (a - t) t _ _ (by omega) h) (fun _ => c5 _ _ _ h))
  refine e_X13_unit ?_
  refine u_X13_unit_0 ?_; unfold qm_X13_unit_0
  exact c1 (c - t) t _ _ (by omega) (Or.inl rfl)
/-- what leave leaves -/
def lvI (y : ow_MS) (m q c a : Nat) : Prop := y.1 70 = nI m ∧ y.1 71 = nI q ∧ (∀ i, i < m → inR y 68 i c) ∧ ∀ i, i < q → inR y 69 i a
theorem u_X13_leave_5 {x1 : Int32} {x2 : Int32} {x3 : Int32} {x4 : Int32} {x5 : Int32} {t0 : Int32} {t1 : Int32} {z : ow_MS} {Q : ow_MS → Prop} (H : Tt (fun K k => qm_X13_leave_5 K (q_X13_leave K k) x1 x2 x3 x4 x5 t0 t1 z) Q) : Tt (fun K k => q_X13_leave K k 5 x1 x2 x3 x4 x5 t0 t1 z) Q := w_un (fun _ _ => rfl) H
theorem u_X13_leave_8 {x1 : Int32} {x2 : Int32} {x3 : Int32} {x4 : Int32} {x5 : Int32} {t0 : Int32} {t1 : Int32} {z : ow_MS} {Q : ow_MS → Prop} (H : Tt (fun K k => qm_X13_leave_8 K (q_X13_leave K k) x1 x2 x3 x4 x5 t0 t1 z) Q) : Tt (fun K k => q_X13_leave K k 8 x1 x2 x3 x4 x5 t0 t1 z) Q := w_un (fun _ _ => rfl) H
theorem u_X13_leave_6 {x1 : Int32} {x2 : Int32} {x3 : Int32} {x4 : Int32} {x5 : Int32} {t0 : Int32} {t1 : Int32} {z : ow_MS} {Q : ow_MS → Prop} (H : Tt (fun K k => qm_X13_leave_6 K (q_X13_leave K k) x1 x2 x3 x4 x5 t0 t1 z) Q) : Tt (fun K k => q_X13_leave K k 6 x1 x2 x3 x4 x5 t0 t1 z) Q := w_un (fun _ _ => rfl) H
theorem u_X13_leave_7 {x1 : Int32} {x2 : Int32} {x3 : Int32} {x4 : Int32} {x5 : Int32} {t0 : Int32} {t1 : Int32} {z : ow_MS} {Q : ow_MS → Prop} (H : Tt (fun K k => qm_X13_leave_7 K (q_X13_leave K k) x1 x2 x3 x4 x5 t0 t1 z) Q) : Tt (fun K k => q_X13_leave K k 7 x1 x2 x3 x4 x5 t0 t1 z) Q := w_un (fun _ _ => rfl) H
theorem u_X13_leave_1 {x1 : Int32} {x2 : Int32} {x3 : Int32} {x4 : Int32} {x5 : Int32} {t0 : Int32} {t1 : Int32} {z : ow_MS} {Q : ow_MS → Prop} (H : Tt (fun K k => qm_X13_leave_1 K (q_X13_leave K k) x1 x2 x3 x4 x5 t0 t1 z) Q) : Tt (fun K k => q_X13_leave K k 1 x1 x2 x3 x4 x5 t0 t1 z) Q := w_un (fun _ _ => rfl) H
theorem u_X13_leave_4 {x1 : Int32} {x2 : Int32} {x3 : Int32} {x4 : Int32} {x5 : Int32} {t0 : Int32} {t1 : Int32} {z : ow_MS} {Q : ow_MS → Prop} (H : Tt (fun K k => qm_X13_leave_4 K (q_X13_leave K k) x1 x2 x3 x4 x5 t0 t1 z) Q) : Tt (fun K k => q_X13_leave K k 4 x1 x2 x3 x4 x5 t0 t1 z) Q := w_un (fun _ _ => rfl) H
theorem u_X13_leave_2 {x1 : Int32} {x2 : Int32} {x3 : Int32} {x4 : Int32} {x5 : Int32} {t0 : Int32} {t1 : Int32} {z : ow_MS} {Q : ow_MS → Prop} (H : Tt (fun K k => qm_X13_leave_2 K (q_X13_leave K k) x1 x2 x3 x4 x5 t0 t1 z) Q) : Tt (fun K k => q_X13_leave K k 2 x1 x2 x3 x4 x5 t0 t1 z) Q := w_un (fun _ _ => rfl) H
theorem u_X13_leave_3 {x1 : Int32} {x2 : Int32} {x3 : Int32} {x4 : Int32} {x5 : Int32} {t0 : Int32} {t1 : Int32} {z : ow_MS} {Q : ow_MS → Prop} (H : Tt (fun K k => qm_X13_leave_3 K (q_X13_leave K k) x1 x2 x3 x4 x5 t0 t1 z) Q) : Tt (fun K k => q_X13_leave K k 3 x1 x2 x3 x4 x5 t0 t1 z) Q := w_un (fun _ _ => rfl) H
theorem e_X13_leave {x1 : Int32} {x2 : Int32} {z : ow_MS} {Q : ow_MS → Prop} (H : Tt (fun K k => q_X13_leave K k 0 x1 x2 0 0 0 0 0 z) Q) : Te (fun K => qe_X13_leave K x1 x2 z) Q := w_te H
theorem u_X13_leave_0 {x1 : Int32} {x2 : Int32} {x3 : Int32} {x4 : Int32} {x5 : Int32} {t0 : Int32} {t1 : Int32} {z : ow_MS} {Q : ow_MS → Prop} (H : Tt (fun K k => qm_X13_leave_0 K (q_X13_leave K k) x1 x2 x3 x4 x5 t0 t1 z) Q) : Tt (fun K k => q_X13_leave K k 0 x1 x2 x3 x4 x5 t0 t1 z) Q := w_un (fun _ _ => rfl) H
theorem tp_leave {t c a : Nat} (ht : t ≤ c) (hc : c ≤ 12) (hta : t ≤ a) (ha : a ≤ 18) (h58 : z.1 58 = nI a) : Te (fun K => qe_X13_leave K (nI t) (nI c) z) (fun z1 => (∃ m q, m ≤ c ∧ q ≤ a ∧ lvI z1 m q c a) ∧ fr (fun g => 68 ≤ g ∧ g ≤ 71) z z1) := by
  let Q : ow_MS → Prop := fun z1 => (∃ m q, m ≤ c ∧ q ≤ a ∧ lvI z1 m q c a) ∧ fr (fun g => 68 ≤ g ∧ g ≤ 71) z z1
  have aF : ∀ {y : ow_MS}, fr (fun g => 68 ≤ g ∧ g ≤ 71) z y → y.1 58 = nI a := fun hf => by rw [(hf 58 (by omega)).1]; exact h58
  have c5 : ∀ (d j m q : Nat) (y : ow_MS), j + d = a → t ≤ j → m ≤ c → q + t ≤ j → fr (fun g => 68 ≤ g ∧ g ≤ 71) z y → lvI y m q c a → Tt (fun K k => q_X13_leave K k 5 (nI t) (nI c) (nI j) 0 0 0 0 y) Q := by
    intro d
    induction d with
    | zero =>
      intro j m q y hj htj hm hq hf hL
      refine u_X13_leave_5 ?_; unfold qm_X13_leave_5
      exact w_rdF (aF hf) (w_leT (by omega) (by omega) (w_some ⟨⟨m, q, hm, by omega, hL⟩, hf⟩))
    | succ d ih =>
      intro j m q y hj htj hm hq hf hL
      have c8 : ∀ (x4 x5 : Int32) (q : Nat) (y : ow_MS), q + t ≤ j + 1 → fr (fun g => 68 ≤ g ∧ g ≤ 71) z y → lvI y m q c a → Tt (fun K k => q_X13_leave K k 8 (nI t) (nI c) (nI j) x4 x5 0 0 y) Q := by
        intro x4 x5 q y hq hf hL
        refine u_X13_leave_8 ?_; unfold qm_X13_leave_8
        rw [nI_1]
        exact ih (j + 1) m q y (by omega) (by omega) hm (by omega) hf hL
      have c6 : ∀ (d i : Nat) (x4 : Int32), i + d = c → Tt (fun K k => q_X13_leave K k 6 (nI t) (nI c) (nI j) x4 (nI i) 0 0 y) Q := by
        intro d
        induction d with
        | zero =>
          intro i x4 hi
          refine u_X13_leave_6 ?_; unfold qm_X13_leave_6
          refine w_leT (by omega) (by omega) (w_if (fun _ => c8 _ _ q y (by omega) hf hL) (fun _ => w_rdF hL.2.1 (w_wrI ml69 rfl (by omega) (w_rdF (x := nI q) hL.2.1 (w_wrF (c8 _ _ (q + 1) _ (by omega) (fr_F2 (fr_I2 hf (by omega)) (by omega)) ⟨?_, po_usF_at.trans (nI_1 q), fun k hk => ?_, fun k hk => ?_⟩))))))
          · exact rf_ot (by omega) hL.1
          · exact inR_ot (by omega) (hL.2.2.1 k hk)
          · show inR (usI y 69 q (nI j)) 69 k a
            by_cases hkq : k = q
            · rw [hkq]; exact inR_set (by omega)
            · exact inR_keep (hL.2.2.2 k (by omega)) ⟨j, by omega, rfl⟩
        | succ d ih6 =>
          intro i x4 hi
          refine u_X13_leave_6 ?_; unfold qm_X13_leave_6
          rw [gr_ix]
          refine w_leF (by omega) (by omega) (w_rdJ ml64 rfl (by omega) rfl (w_if (fun _ => ?_) (fun _ => ?_)))
          · refine u_X13_leave_7 ?_; unfold qm_X13_leave_7
            rw [nI_1]
            exact ih6 (i + 1) _ (by omega)
          · refine u_X13_leave_7 ?_; unfold qm_X13_leave_7
            rw [nI_1]
            exact ih6 (i + 1) _ (by omega)
      refine u_X13_leave_5 ?_; unfold qm_X13_leave_5
      exact w_rdF (aF hf) (w_leF (by omega) (by omega) (c6 (c - t) t 0 (by omega)))
  have c1 : ∀ (d i m : Nat) (y : ow_MS), i + d = c → t ≤ i → m + t ≤ i → fr (fun g => 68 ≤ g ∧ g ≤ 71) z y → y.1 70 = nI m → (∀ k, k < m → inR y 68 k c) → Tt (fun K k => q_X13_leave K k 1 (nI t) (nI c) (nI i) 0 0 0 0 y) Q := by
    intro d
    induction d with
    | zero =>
      intro i m y hi hti hm hf h70 hR
      refine u_X13_leave_1 ?_; unfold qm_X13_leave_1
      exact w_leT (by omega) (by omega) (w_wrF (c5 (a - t) t m 0 _ (by omega) (Nat.le_refl _) (by omega) (by omega) (fr_F2 hf (by omega)) ⟨rf_ot (by omega) h70, po_usF_at, hR, fun k hk => absurd hk (by omega)⟩))
    | succ d ih =>
      intro i m y hi hti hm hf h70 hR
      have c4 : ∀ (x4 x5 : Int32) (m : Nat) (y : ow_MS), m + t ≤ i + 1 → fr (fun g => 68 ≤ g ∧ g ≤ 71) z y → y.1 70 = nI m → (∀ k, k < m → inR y 68 k c) → Tt (fun K k => q_X13_leave K k 4 (nI t) (nI c) (nI i) x4 x5 0 0 y) Q := by
        intro x4 x5 m y hm hf h70 hR
        refine u_X13_leave_4 ?_; unfold qm_X13_leave_4
        rw [nI_1]
        exact ih (i + 1) m y (by omega) (by omega) (by omega) hf h70 hR
      have c2 : ∀ (d j : Nat) (x4 : Int32), j + d = a → Tt (fun K k => q_X13_leave K k 2 (nI t) (nI c) (nI i) x4 (nI j) 0 0 y) Q := by
        intro d
        induction d with
        | zero =>
          intro j x4 hj
          refine u_X13_leave_2 ?_; unfold qm_X13_leave_2
          refine w_rdF (aF hf) (w_leT (by omega) (by omega) (w_if (fun _ => c4 _ _ m y (by omega) hf h70 hR) (fun _ => w_rdF h70 (w_wrI ml68 rfl (by omega) (w_rdF (x := nI m) h70 (w_wrF (c4 _ _ (m + 1) _ (by omega) (fr_F2 (fr_I2 hf (by omega)) (by omega)) (po_usF_at.trans (nI_1 m)) (fun k hk => ?_))))))))
          show inR (usI y 68 m (nI i)) 68 k c
          by_cases hkq : k = m
          · rw [hkq]; exact inR_set (by omega)
          · exact inR_keep (hR k (by omega)) ⟨i, by omega, rfl⟩
        | succ d ih2 =>
          intro j x4 hj
          refine u_X13_leave_2 ?_; unfold qm_X13_leave_2
          rw [gr_ix]
          refine w_rdF (aF hf) (w_leF (by omega) (by omega) (w_rdJ ml64 rfl (by omega) rfl (w_if (fun _ => ?_) (fun _ => ?_))))
          · refine u_X13_leave_3 ?_; unfold qm_X13_leave_3
            rw [nI_1]
            exact ih2 (j + 1) _ (by omega)
          · refine u_X13_leave_3 ?_; unfold qm_X13_leave_3
            rw [nI_1]
            exact ih2 (j + 1) _ (by omega)
      refine u_X13_leave_1 ?_; unfold qm_X13_leave_1
      exact w_leF (by omega) (by omega) (c2 (a - t) t 0 (by omega))
  refine e_X13_leave ?_
  refine u_X13_leave_0 ?_; unfold qm_X13_leave_0
  exact w_wrF (c1 (c - t) t 0 _ (by omega) (Nat.le_refl _) (by omega) (fr_F (by omega)) po_usF_at (fun k hk => absurd hk (by omega)))
theorem u_X13_minor_5 {x1 : Int32} {x2 : Int32} {x3 : Int32} {x4 : Int32} {x5 : Int32} {x6 : Int32} {x7 : Int32} {x8 : Int32} {x9 : Int32} {x10 : Int32} {w5 : Int64} {z : ow_MS} {Q : (Int64 × ow_MS) → Prop} (H : Tt (fun K k => qm_X13_minor_5 K (q_X13_minor K k) x1 x2 x3 x4 x5 x6 x7 x8 x9 x10 w5 z) Q) : Tt (fun K k => q_X13_minor K k 5 x1 x2 x3 x4 x5 x6 x7 x8 x9 x10 w5 z) Q := w_un (fun _ _ => rfl) H
theorem u_X13_minor_9 {x1 : Int32} {x2 : Int32} {x3 : Int32} {x4 : Int32} {x5 : Int32} {x6 : Int32} {x7 : Int32} {x8 : Int32} {x9 : Int32} {x10 : Int32} {w5 : Int64} {z : ow_MS} {Q : (Int64 × ow_MS) → Prop} (H : Tt (fun K k => qm_X13_minor_9 K (q_X13_minor K k) x1 x2 x3 x4 x5 x6 x7 x8 x9 x10 w5 z) Q) : Tt (fun K k => q_X13_minor K k 9 x1 x2 x3 x4 x5 x6 x7 x8 x9 x10 w5 z) Q := w_un (fun _ _ => rfl) H
theorem u_X13_minor_10 {x1 : Int32} {x2 : Int32} {x3 : Int32} {x4 : Int32} {x5 : Int32} {x6 : Int32} {x7 : Int32} {x8 : Int32} {x9 : Int32} {x10 : Int32} {w5 : Int64} {z : ow_MS} {Q : (Int64 × ow_MS) → Prop} (H : Tt (fun K k => qm_X13_minor_10 K (q_X13_minor K k) x1 x2 x3 x4 x5 x6 x7 x8 x9 x10 w5 z) Q) : Tt (fun K k => q_X13_minor K k 10 x1 x2 x3 x4 x5 x6 x7 x8 x9 x10 w5 z) Q := w_un (fun _ _ => rfl) H
theorem u_X13_minor_8 {x1 : Int32} {x2 : Int32} {x3 : Int32} {x4 : Int32} {x5 : Int32} {x6 : Int32} {x7 : Int32} {x8 : Int32} {x9 : Int32} {x10 : Int32} {w5 : Int64} {z : ow_MS} {Q : (Int64 × ow_MS) → Prop} (H : Tt (fun K k => qm_X13_minor_8 K (q_X13_minor K k) x1 x2 x3 x4 x5 x6 x7 x8 x9 x10 w5 z) Q) : Tt (fun K k => q_X13_minor K k 8 x1 x2 x3 x4 x5 x6 x7 x8 x9 x10 w5 z) Q := w_un (fun _ _ => rfl) H
theorem u_X13_minor_6 {x1 : Int32} {x2 : Int32} {x3 : Int32} {x4 : Int32} {x5 : Int32} {x6 : Int32} {x7 : Int32} {x8 : Int32} {x9 : Int32} {x10 : Int32} {w5 : Int64} {z : ow_MS} {Q : (Int64 × ow_MS) → Prop} (H : Tt (fun K k => qm_X13_minor_6 K (q_X13_minor K k) x1 x2 x3 x4 x5 x6 x7 x8 x9 x10 w5 z) Q) : Tt (fun K k => q_X13_minor K k 6 x1 x2 x3 x4 x5 x6 x7 x8 x9 x10 w5 z) Q := w_un (fun _ _ => rfl) H
theorem u_X13_minor_7 {x1 : Int32} {x2 : Int32} {x3 : Int32} {x4 : Int32} {x5 : Int32} {x6 : Int32} {x7 : Int32} {x8 : Int32} {x9 : Int32} {x10 : Int32} {w5 : Int64} {z : ow_MS} {Q : (Int64 × ow_MS) → Prop} (H : Tt (fun K k => qm_X13_minor_7 K (q_X13_minor K k) x1 x2 x3 x4 x5 x6 x7 x8 x9 x10 w5 z) Q) : Tt (fun K k => q_X13_minor K k 7 x1 x2 x3 x4 x5 x6 x7 x8 x9 x10 w5 z) Q := w_un (fun _ _ => rfl) H
theorem u_X13_minor_1 {x1 : Int32} {x2 : Int32} {x3 : Int32} {x4 : Int32} {x5 : Int32} {x6 : Int32} {x7 : Int32} {x8 : Int32} {x9 : Int32} {x10 : Int32} {w5 : Int64} {z : ow_MS} {Q : (Int64 × ow_MS) → Prop} (H : Tt (fun K k => qm_X13_minor_1 K (q_X13_minor K k) x1 x2 x3 x4 x5 x6 x7 x8 x9 x10 w5 z) Q) : Tt (fun K k => q_X13_minor K k 1 x1 x2 x3 x4 x5 x6 x7 x8 x9 x10 w5 z) Q := w_un (fun _ _ => rfl) H
theorem u_X13_minor_4 {x1 : Int32} {x2 : Int32} {x3 : Int32} {x4 : Int32} {x5 : Int32} {x6 : Int32} {x7 : Int32} {x8 : Int32} {x9 : Int32} {x10 : Int32} {w5 : Int64} {z : ow_MS} {Q : (Int64 × ow_MS) → Prop} (H : Tt (fun K k => qm_X13_minor_4 K (q_X13_minor K k) x1 x2 x3 x4 x5 x6 x7 x8 x9 x10 w5 z) Q) : Tt (fun K k => q_X13_minor K k 4 x1 x2 x3 x4 x5 x6 x7 x8 x9 x10 w5 z) Q := w_un (fun _ _ => rfl) H
theorem u_X13_minor_2 {x1 : Int32} {x2 : Int32} {x3 : Int32} {x4 : Int32} {x5 : Int32} {x6 : Int32} {x7 : Int32} {x8 : Int32} {x9 : Int32} {x10 : Int32} {w5 : Int64} {z : ow_MS} {Q : (Int64 × ow_MS) → Prop} (H : Tt (fun K k => qm_X13_minor_2 K (q_X13_minor K k) x1 x2 x3 x4 x5 x6 x7 x8 x9 x10 w5 z) Q) : Tt (fun K k => q_X13_minor K k 2 x1 x2 x3 x4 x5 x6 x7 x8 x9 x10 w5 z) Q := w_un (fun _ _ => rfl) H
theorem u_X13_minor_3 {x1 : Int32} {x2 : Int32} {x3 : Int32} {x4 : Int32} {x5 : Int32} {x6 : Int32} {x7 : Int32} {x8 : Int32} {x9 : Int32} {x10 : Int32} {w5 : Int64} {z : ow_MS} {Q : (Int64 × ow_MS) → Prop} (H : Tt (fun K k => qm_X13_minor_3 K (q_X13_minor K k) x1 x2 x3 x4 x5 x6 x7 x8 x9 x10 w5 z) Q) : Tt (fun K k => q_X13_minor K k 3 x1 x2 x3 x4 x5 x6 x7 x8 x9 x10 w5 z) Q := w_un (fun _ _ => rfl) H
theorem e_X13_minor {x1 : Int32} {x2 : Int32} {x3 : Int32} {z : ow_MS} {Q : (Int64 × ow_MS) → Prop} (H : Tt (fun K k => q_X13_minor K k 0 x1 x2 x3 0 0 0 0 0 0 0 0 z) Q) : Te (fun K => qe_X13_minor K x1 x2 x3 z) Q := w_te H
theorem u_X13_minor_0 {x1 : Int32} {x2 : Int32} {x3 : Int32} {x4 : Int32} {x5 : Int32} {x6 : Int32} {x7 : Int32} {x8 : Int32} {x9 : Int32} {x10 : Int32} {w5 : Int64} {z : ow_MS} {Q : (Int64 × ow_MS) → Prop} (H : Tt (fun K k => qm_X13_minor_0 K (q_X13_minor K k) x1 x2 x3 x4 x5 x6 x7 x8 x9 x10 w5 z) Q) : Tt (fun K k => q_X13_minor K k 0 x1 x2 x3 x4 x5 x6 x7 x8 x9 x10 w5 z) Q := w_un (fun _ _ => rfl) H
theorem tp_minor {m q c a k : Nat} {rs cs : Int32} (hm : m ≤ 12) (hq : q ≤ 18) (hc : c ≤ 12) (ha : a ≤ 18) (hk1 : 1 ≤ k) (hk : k ≤ 12) (hL : lvI z m q c a) : Te (fun K => qe_X13_minor K rs cs (nI k) z) (fun r => fr (fun g => g = 72) z r.2) := by
  let Q : Int64 × ow_MS → Prop := fun r => fr (fun g => g = 72) z r.2
  have lF : ∀ {y : ow_MS}, fr (fun g => g = 72) z y → lvI y m q c a := fun hf => ⟨by rw [(hf 70 (by omega)).1]; exact hL.1, by rw [(hf 71 (by omega)).1]; exact hL.2.1, fun i hi => inR_fr hf (by omega) (hL.2.2.1 i hi), fun i hi => inR_fr hf (by omega) (hL.2.2.2 i hi)⟩
  have c5 : ∀ (d t : Nat) (x4 : Int32) (w5 : Int64) (y : ow_MS), t + 1 + d = k → w5 ≠ 0 → fr (fun g => g = 72) z y → Tt (fun K i => q_X13_minor K i 5 rs cs (nI k) x4 0 0 (nI t) 0 0 0 w5 y) Q := by
    intro d
    induction d with
    | zero =>
      intro t x4 w5 y ht hw hf
      refine u_X13_minor_5 ?_; unfold qm_X13_minor_5
      rw [nI_1, show nI k - 1 = nI (k - 1) from pk_sub (b := 1) hk1, show (14 : Int32) * nI (k - 1) = nI (14 * (k - 1)) from pk_mul 14 _]
      exact w_leT (by omega) (by omega) (w_rdJ ml72 rfl (by omega) rfl (w_some hf))
    | succ d ih =>
      intro t x4 w5 y ht hw hf
      have c9 : ∀ (d2 r : Nat) (x8 : Int32) (y : ow_MS), r + d2 = k → t < r → fr (fun g => g = 72) z y → y.2.2 72 (13 * t + t) ≠ 0 → Tt (fun K i => q_X13_minor K i 9 rs cs (nI k) x4 0 0 (nI t) x8 (nI r) 0 w5 y) Q := by
        intro d2
        induction d2 with
        | zero =>
          intro r x8 y hr htr hf hp
          refine u_X13_minor_9 ?_; unfold qm_X13_minor_9
          rw [nI_1, show (14 : Int32) * nI t = nI (14 * t) from pk_mul 14 _]
          exact w_leT (by omega) (by omega) (w_rdJ ml72 rfl (by omega) rfl (ih (t + 1) x4 _ y (by omega) (by rw [show 14 * t = 13 * t + t by omega]; exact hp) hf))
        | succ d2 ih2 =>
          intro r x8 y hr htr hf hp
          have c10 : ∀ (d3 s : Nat) (y : ow_MS), s + d3 = k → t < s → fr (fun g => g = 72) z y → y.2.2 72 (13 * t + t) ≠ 0 → Tt (fun K i => q_X13_minor K i 10 rs cs (nI k) x4 0 0 (nI t) x8 (nI r) (nI s) w5 y) Q := by
            intro d3
            induction d3 with
            | zero =>
              intro s y hs hts hf hp
              refine u_X13_minor_10 ?_; unfold qm_X13_minor_10
              rw [show nI r + 1 = nI (r + 1) from nI_1 _]
              exact w_leT (by omega) (by omega) (ih2 (r + 1) x8 y (by omega) (by omega) hf hp)
            | succ d3 ih3 =>
              intro s y hs hts hf hp
              refine u_X13_minor_10 ?_; unfold qm_X13_minor_10
              rw [show nI s + 1 = nI (s + 1) from nI_1 _, sq_ix, sq_ix, sq_ix, sq_ix]
              refine w_leF (by omega) (by omega) (w_rdJ ml72 rfl (by omega) rfl (w_rdJ ml72 rfl (by omega) rfl (w_rdJ ml72 rfl (by omega) rfl (w_rdJ ml72 rfl (by omega) rfl (w_nzJ hw (w_wrJ ml72 rfl (by omega) (ih3 (s + 1) _ (by omega) (by omega) (fr_J2 hf rfl) ?_)))))))
              rw [usJ_ne (by omega)]
              exact hp
          refine u_X13_minor_9 ?_; unfold qm_X13_minor_9
          rw [show nI t + 1 = nI (t + 1) from nI_1 _]
          exact w_leF (by omega) (by omega) (c10 (k - (t + 1)) (t + 1) y (by omega) (by omega) hf hp)
      have c8 : ∀ (d2 j p : Nat) (y : ow_MS), j + d2 = k → p < k → fr (fun g => g = 72) z y → (j ≤ t → y.2.2 72 (13 * p + t) ≠ 0) → (t < j → y.2.2 72 (13 * t + t) ≠ 0) → Tt (fun K i => q_X13_minor K i 8 rs cs (nI k) x4 0 0 (nI t) (nI p) (nI j) 0 w5 y) Q := by
        intro d2
        induction d2 with
        | zero =>
          intro j p y hj hp hf h1 h2
          refine u_X13_minor_8 ?_; unfold qm_X13_minor_8
          rw [show nI t + 1 = nI (t + 1) from nI_1 _]
          exact w_leT (by omega) (by omega) (c9 (k - (t + 1)) (t + 1) _ y (by omega) (by omega) hf (h2 (by omega)))
        | succ d2 ih2 =>
          intro j p y hj hp hf h1 h2
          refine u_X13_minor_8 ?_; unfold qm_X13_minor_8
          rw [show nI j + 1 = nI (j + 1) from nI_1 _, sq_ix, sq_ix]
          refine w_leF (by omega) (by omega) (w_rdJ ml72 rfl (by omega) rfl (w_rdJ ml72 rfl (by omega) rfl (w_wrJ ml72 rfl (by omega) (w_wrJ ml72 rfl (by omega) (ih2 (j + 1) p _ (by omega) hp (fr_J2 (fr_J2 hf rfl) rfl) (fun h9 => ?_) (fun h9 => ?_))))))
          · rw [usJ_ne (by omega), usJ_ne (by omega)]
            exact h1 (by omega)
          · by_cases hjt : j = t
            · rw [hjt, usJ_at]
              exact h1 (by omega)
            · rw [usJ_ne (by omega), usJ_ne (by omega)]
              exact h2 (by omega)
      have c6 : ∀ (d2 p : Nat), p + d2 = k → t ≤ p → Tt (fun K i => q_X13_minor K i 6 rs cs (nI k) x4 0 0 (nI t) (nI p) 0 0 w5 y) Q := by
        intro d2
        induction d2 with
        | zero =>
          intro p hp htp
          refine u_X13_minor_6 ?_; unfold qm_X13_minor_6
          refine w_leT (by omega) (by omega) ?_
          refine u_X13_minor_7 ?_; unfold qm_X13_minor_7
          exact w_ifT (by rw [show p = k by omega]) (w_some hf)
        | succ d2 ih2 =>
          intro p hp htp
          refine u_X13_minor_6 ?_; unfold qm_X13_minor_6
          rw [nI_1, sq_ix]
          refine w_leF (by omega) (by omega) (w_rdJ ml72 rfl (by omega) rfl (w_if (fun _ => ih2 (p + 1) (by omega) (by omega)) (fun h9 => ?_)))
          refine u_X13_minor_7 ?_; unfold qm_X13_minor_7
          exact w_ifF (fun e => absurd ((nI_eq (by omega) (by omega)).mp e) (by omega)) (c8 k 0 p y (by omega) (by omega) hf (fun _ e => h9 (cmp_0.mpr e)) (fun h8 => absurd h8 (by omega)))
      refine u_X13_minor_5 ?_; unfold qm_X13_minor_5
      rw [nI_1]
      exact w_leF (by omega) (by omega) (c6 (k - t) t (by omega) (Nat.le_refl _))
  have c1 : ∀ (d r i : Nat) (y : ow_MS), r + d = m → i ≤ r → fr (fun g => g = 72) z y → Tt (fun K t => q_X13_minor K t 1 rs cs (nI k) (nI i) (nI r) 0 0 0 0 0 0 y) Q := by
    intro d
    induction d with
    | zero =>
      intro r i y hr hi hf
      refine u_X13_minor_1 ?_; unfold qm_X13_minor_1
      exact w_rdF (lF hf).1 (w_leT (by omega) (by omega) (c5 (k - 1) 0 _ 1 y (by omega) (by decide) hf))
    | succ d ih =>
      intro r i y hr hi hf
      have c4 : ∀ (i : Nat) (y : ow_MS), i ≤ r + 1 → fr (fun g => g = 72) z y → Tt (fun K t => q_X13_minor K t 4 rs cs (nI k) (nI i) (nI r) 0 0 0 0 0 0 y) Q := by
        intro i y hi hf
        refine u_X13_minor_4 ?_; unfold qm_X13_minor_4
        rw [nI_1]
        exact ih (r + 1) i y (by omega) (by omega) hf
      have c2 : ∀ (d s j : Nat) (y : ow_MS), s + d = q → j ≤ s → fr (fun g => g = 72) z y → Tt (fun K t => q_X13_minor K t 2 rs cs (nI k) (nI i) (nI r) (nI j) (nI s) 0 0 0 0 y) Q := by
        intro d
        induction d with
        | zero =>
          intro s j y hs hj hf
          refine u_X13_minor_2 ?_; unfold qm_X13_minor_2
          rw [show nI i + 1 = nI (i + 1) from nI_1 _]
          exact w_rdF (lF hf).2.1 (w_leT (by omega) (by omega) (c4 (i + 1) y (by omega) hf))
        | succ d ih2 =>
          intro s j y hs hj hf
          obtain ⟨r0, hr0, er⟩ := (lF hf).2.2.1 r (by omega)
          obtain ⟨s0, hs0, es⟩ := (lF hf).2.2.2 s (by omega)
          refine u_X13_minor_2 ?_; unfold qm_X13_minor_2
          rw [show nI j + 1 = nI (j + 1) from nI_1 _, sq_ix]
          refine w_rdF (lF hf).2.1 (w_leF (by omega) (by omega) (w_if (fun _ => w_rdI ml68 rfl (by omega) er (w_rdI ml69 rfl (by omega) es (w_rdJ (i := 24 * r0 + s0) ml64 gr_ix (by omega) rfl (w_wrJ ml72 rfl (by omega) ?_)))) (fun _ => ?_)))
          · refine u_X13_minor_3 ?_; unfold qm_X13_minor_3
            rw [show nI s + 1 = nI (s + 1) from nI_1 _]
            exact ih2 (s + 1) (j + 1) _ (by omega) (by omega) (fr_J2 hf rfl)
          · refine u_X13_minor_3 ?_; unfold qm_X13_minor_3
            rw [show nI s + 1 = nI (s + 1) from nI_1 _]
            exact ih2 (s + 1) j _ (by omega) (by omega) hf
      refine u_X13_minor_1 ?_; unfold qm_X13_minor_1
      exact w_rdF (lF hf).1 (w_leF (by omega) (by omega) (w_if (fun _ => c2 q 0 0 y (by omega) (Nat.le_refl _) hf) (fun _ => c4 i y (by omega) hf)))
  refine e_X13_minor ?_
  refine u_X13_minor_0 ?_; unfold qm_X13_minor_0
  exact c1 m 0 0 z (by omega) (Nat.le_refl _) fr_rf
theorem u_X13_divisor_1 {x1 : Int32} {x6 : Int32} {x7 : Int32} {w2 : Int64} {w4 : Int64} {z : ow_MS} {Q : (Int64 × ow_MS) → Prop} (H : Tt (fun K k => qm_X13_divisor_1 K (q_X13_divisor K k) x1 x6 x7 w2 w4 z) Q) : Tt (fun K k => q_X13_divisor K k 1 x1 x6 x7 w2 w4 z) Q := w_un (fun _ _ => rfl) H
theorem u_X13_divisor_4 {x1 : Int32} {x6 : Int32} {x7 : Int32} {w2 : Int64} {w4 : Int64} {z : ow_MS} {Q : (Int64 × ow_MS) → Prop} (H : Tt (fun K k => qm_X13_divisor_4 K (q_X13_divisor K k) x1 x6 x7 w2 w4 z) Q) : Tt (fun K k => q_X13_divisor K k 4 x1 x6 x7 w2 w4 z) Q := w_un (fun _ _ => rfl) H
theorem u_X13_divisor_2 {x1 : Int32} {x6 : Int32} {x7 : Int32} {w2 : Int64} {w4 : Int64} {z : ow_MS} {Q : (Int64 × ow_MS) → Prop} (H : Tt (fun K k => qm_X13_divisor_2 K (q_X13_divisor K k) x1 x6 x7 w2 w4 z) Q) : Tt (fun K k => q_X13_divisor K k 2 x1 x6 x7 w2 w4 z) Q := w_un (fun _ _ => rfl) H
theorem u_X13_divisor_3 {x1 : Int32} {x6 : Int32} {x7 : Int32} {w2 : Int64} {w4 : Int64} {z : ow_MS} {Q : (Int64 × ow_MS) → Prop} (H : Tt (fun K k => qm_X13_divisor_3 K (q_X13_divisor K k) x1 x6 x7 w2 w4 z) Q) : Tt (fun K k => q_X13_divisor K k 3 x1 x6 x7 w2 w4 z) Q := w_un (fun _ _ => rfl) H
theorem e_X13_divisor {x1 : Int32} {w2 : Int64} {z : ow_MS} {Q : (Int64 × ow_MS) → Prop} (H : Tt (fun K k => q_X13_divisor K k 0 x1 0 0 w2 0 z) Q) : Te (fun K => qe_X13_divisor K x1 w2 z) Q := w_te H
theorem u_X13_divisor_0 {x1 : Int32} {x6 : Int32} {x7 : Int32} {w2 : Int64} {w4 : Int64} {z : ow_MS} {Q : (Int64 × ow_MS) → Prop} (H : Tt (fun K k => qm_X13_divisor_0 K (q_X13_divisor K k) x1 x6 x7 w2 w4 z) Q) : Tt (fun K k => q_X13_divisor K k 0 x1 x6 x7 w2 w4 z) Q := w_un (fun _ _ => rfl) H
theorem tp_divisor {m q c a k : Nat} {w : Int64} (hm : m ≤ 12) (hq : q ≤ 18) (hc : c ≤ 12) (ha : a ≤ 18) (hk1 : 1 ≤ k) (hk2 : k < 2 ^ 31) (hL : lvI z m q c a) : Te (fun K => qe_X13_divisor K (nI k) w z) (fun r => fr (fun g => g = 72) z r.2 ∧ (12 < k → r.1 = 0)) := by
  let Q : Int64 × ow_MS → Prop := fun r => fr (fun g => g = 72) z r.2 ∧ (12 < k → r.1 = 0)
  have lF : ∀ {y : ow_MS}, fr (fun g => g = 72) z y → lvI y m q c a := fun hf => ⟨by rw [(hf 70 (by omega)).1]; exact hL.1, by rw [(hf 71 (by omega)).1]; exact hL.2.1, fun i hi => inR_fr hf (by omega) (hL.2.2.1 i hi), fun i hi => inR_fr hf (by omega) (hL.2.2.2 i hi)⟩
  have hm2 : 2 ^ m ≤ 4096 := two_mono (b := 12) hm
  have hq2 : 2 ^ q ≤ 262144 := two_mono (b := 18) hq
  have c1 : ∀ (d r : Nat) (w4 : Int64) (y : ow_MS), r + d = 2 ^ m → (12 < k → w4 = 0) → fr (fun g => g = 72) z y → Tt (fun K t => q_X13_divisor K t 1 (nI k) (nI r) 0 w w4 y) Q := by
    intro d
    induction d with
    | zero =>
      intro r w4 y hr hw hf
      refine u_X13_divisor_1 ?_; unfold qm_X13_divisor_1
      refine w_rdF (lF hf).1 ?_
      rw [shl1 (by omega)]
      exact w_leT (by omega) (by omega) (w_some ⟨hf, hw⟩)
    | succ d ih =>
      intro r w4 y hr hw hf
      have hpr := pc_le (c := 12) (k := r) (by omega)
      have c4 : ∀ (x7 : Int32) (w4 : Int64) (y : ow_MS), (12 < k → w4 = 0) → fr (fun g => g = 72) z y → Tt (fun K t => q_X13_divisor K t 4 (nI k) (nI r) x7 w w4 y) Q := by
        intro x7 w4 y hw hf
        refine u_X13_divisor_4 ?_; unfold qm_X13_divisor_4
        rw [nI_1]
        exact ih (r + 1) w4 y (by omega) hw hf
      have c2 : ∀ (d s : Nat) (w4 : Int64) (y : ow_MS), s + d = 2 ^ q → (12 < k → w4 = 0) → fr (fun g => g = 72) z y → Tt (fun K t => q_X13_divisor K t 2 (nI k) (nI r) (nI s) w w4 y) Q := by
        intro d
        induction d with
        | zero =>
          intro s w4 y hs hw hf
          refine u_X13_divisor_2 ?_; unfold qm_X13_divisor_2
          refine w_rdF (lF hf).2.1 ?_
          rw [shl1 (by omega)]
          exact w_leT (by omega) (by omega) (c4 _ _ y hw hf)
        | succ d ih2 =>
          intro s w4 y hs hw hf
          refine u_X13_divisor_2 ?_; unfold qm_X13_divisor_2
          refine w_rdF (lF hf).2.1 ?_
          rw [shl1 (by omega), bc_pc (by omega)]
          refine w_leF (by omega) (by omega) (w_if (fun _ => c4 _ _ y hw hf) (fun _ => w_eqN (by omega) hk2 (fun hpk => w_if (fun _ => w_cs1 (tp_minor hm hq hc ha hk1 (by omega) (lF hf)) (fun a1 y1 f1 => w_cs1 tp_gcd (fun a2 y2 e2 => ?_))) (fun _ => ?_)) (fun _ => c4 _ _ y hw hf)))
          · have e2 : y2 = y1 := e2
            subst e2
            refine u_X13_divisor_3 ?_; unfold qm_X13_divisor_3
            rw [nI_1]
            exact ih2 (s + 1) _ y2 (by omega) (fun h9 => absurd h9 (by omega)) (fr_tr hf f1)
          · refine u_X13_divisor_3 ?_; unfold qm_X13_divisor_3
            rw [nI_1]
            exact ih2 (s + 1) _ y (by omega) hw hf
      refine u_X13_divisor_1 ?_; unfold qm_X13_divisor_1
      refine w_rdF (lF hf).1 ?_
      rw [shl1 (by omega)]
      exact w_leF (by omega) (by omega) (w_if (fun _ => w_some ⟨hf, hw⟩) (fun _ => c2 (2 ^ q) 0 w4 y (by omega) hw hf))
  refine e_X13_divisor ?_
  refine u_X13_divisor_0 ?_; unfold qm_X13_divisor_0
  exact c1 (2 ^ m) 0 0 z (by omega) (fun _ => rfl) fr_rf
abbrev cvH (g : Nat) : Prop := 58 ≤ g ∧ g ≤ 64 ∨ 66 ≤ g ∧ g ≤ 72
theorem e_X13_makeCover {r1 : Nat} {z : ow_MS} {Q : ow_MS → Prop} (H : Tt (fun K k => q_X13_makeCover K k 0 0 0 0 0 0 0 0 0 0 r1 z) Q) : Te (fun K => qe_X13_makeCover K r1 z) Q := w_te H
theorem u_X13_makeCover_0 {x2 : Int32} {x3 : Int32} {x4 : Int32} {x6 : Int32} {x7 : Int32} {x9 : Int32} {w4 : Int64} {w5 : Int64} {w7 : Int64} {r1 : Nat} {z : ow_MS} {Q : ow_MS → Prop} (H : Tt (fun K k => qm_X13_makeCover_0 K (q_X13_makeCover K k) x2 x3 x4 x6 x7 x9 w4 w5 w7 r1 z) Q) : Tt (fun K k => q_X13_makeCover K k 0 x2 x3 x4 x6 x7 x9 w4 w5 w7 r1 z) Q := w_un (fun _ _ => rfl) H
theorem u_X13_makeCover_9 {x2 : Int32} {x3 : Int32} {x4 : Int32} {x6 : Int32} {x7 : Int32} {x9 : Int32} {w4 : Int64} {w5 : Int64} {w7 : Int64} {r1 : Nat} {z : ow_MS} {Q : ow_MS → Prop} (H : Tt (fun K k => qm_X13_makeCover_9 K (q_X13_makeCover K k) x2 x3 x4 x6 x7 x9 w4 w5 w7 r1 z) Q) : Tt (fun K k => q_X13_makeCover K k 9 x2 x3 x4 x6 x7 x9 w4 w5 w7 r1 z) Q := w_un (fun _ _ => rfl) H
theorem u_X13_makeCover_7 {x2 : Int32} {x3 : Int32} {x4 : Int32} {x6 : Int32} {x7 : Int32} {x9 : Int32} {w4 : Int64} {w5 : Int64} {w7 : Int64} {r1 : Nat} {z : ow_MS} {Q : ow_MS → Prop} (H : Tt (fun K k => qm_X13_makeCover_7 K (q_X13_makeCover K k) x2 x3 x4 x6 x7 x9 w4 w5 w7 r1 z) Q) : Tt (fun K k => q_X13_makeCover K k 7 x2 x3 x4 x6 x7 x9 w4 w5 w7 r1 z) Q := w_un (fun _ _ => rfl) H
theorem u_X13_makeCover_8 {x2 : Int32} {x3 : Int32} {x4 : Int32} {x6 : Int32} {x7 : Int32} {x9 : Int32} {w4 : Int64} {w5 : Int64} {w7 : Int64} {r1 : Nat} {z : ow_MS} {Q : ow_MS → Prop} (H : Tt (fun K k => qm_X13_makeCover_8 K (q_X13_makeCover K k) x2 x3 x4 x6 x7 x9 w4 w5 w7 r1 z) Q) : Tt (fun K k => q_X13_makeCover K k 8 x2 x3 x4 x6 x7 x9 w4 w5 w7 r1 z) Q := w_un (fun _ _ => rfl) H
theorem u_X13_makeCover_6 {x2 : Int32} {x3 : Int32} {x4 : Int32} {x6 : Int32} {x7 : Int32} {x9 : Int32} {w4 : Int64} {w5 : Int64} {w7 : Int64} {r1 : Nat} {z : ow_MS} {Q : ow_MS → Prop} (H : Tt (fun K k => qm_X13_makeCover_6 K (q_X13_makeCover K k) x2 x3 x4 x6 x7 x9 w4 w5 w7 r1 z) Q) : Tt (fun K k => q_X13_makeCover K k 6 x2 x3 x4 x6 x7 x9 w4 w5 w7 r1 z) Q := w_un (fun _ _ => rfl) H
theorem u_X13_makeCover_3 {x2 : Int32} {x3 : Int32} {x4 : Int32} {x6 : Int32} {x7 : Int32} {x9 : Int32} {w4 : Int64} {w5 : Int64} {w7 : Int64} {r1 : Nat} {z : ow_MS} {Q : ow_MS → Prop} (H : Tt (fun K k => qm_X13_makeCover_3 K (q_X13_makeCover K k) x2 x3 x4 x6 x7 x9 w4 w5 w7 r1 z) Q) : Tt (fun K k => q_X13_makeCover K k 3 x2 x3 x4 x6 x7 x9 w4 w5 w7 r1 z) Q := w_un (fun _ _ => rfl) H
theorem u_X13_makeCover_4 {x2 : Int32} {x3 : Int32} {x4 : Int32} {x6 : Int32} {x7 : Int32} {x9 : Int32} {w4 : Int64} {w5 : Int64} {w7 : Int64} {r1 : Nat} {z : ow_MS} {Q : ow_MS → Prop} (H : Tt (fun K k => qm_X13_makeCover_4 K (q_X13_makeCover K k) x2 x3 x4 x6 x7 x9 w4 w5 w7 r1 z) Q) : Tt (fun K k => q_X13_makeCover K k 4 x2 x3 x4 x6 x7 x9 w4 w5 w7 r1 z) Q := w_un (fun _ _ => rfl) H
theorem u_X13_makeCover_5 {x2 : Int32} {x3 : Int32} {x4 : Int32} {x6 : Int32} {x7 : Int32} {x9 : Int32} {w4 : Int64} {w5 : Int64} {w7 : Int64} {r1 : Nat} {z : ow_MS} {Q : ow_MS → Prop} (H : Tt (fun K k => qm_X13_makeCover_5 K (q_X13_makeCover K k) x2 x3 x4 x6 x7 x9 w4 w5 w7 r1 z) Q) : Tt (fun K k => q_X13_makeCover K k 5 x2 x3 x4 x6 x7 x9 w4 w5 w7 r1 z) Q := w_un (fun _ _ => rfl) H
theorem u_X13_makeCover_2 {x2 : Int32} {x3 : Int32} {x4 : Int32} {x6 : Int32} {x7 : Int32} {x9 : Int32} {w4 : Int64} {w5 : Int64} {w7 : Int64} {r1 : Nat} {z : ow_MS} {Q : ow_MS → Prop} (H : Tt (fun K k => qm_X13_makeCover_2 K (q_X13_makeCover K k) x2 x3 x4 x6 x7 x9 w4 w5 w7 r1 z) Q) : Tt (fun K k => q_X13_makeCover K k 2 x2 x3 x4 x6 x7 x9 w4 w5 w7 r1 z) Q := w_un (fun _ _ => rfl) H
theorem u_X13_makeCover_1 {x2 : Int32} {x3 : Int32} {x4 : Int32} {x6 : Int32} {x7 : Int32} {x9 : Int32} {w4 : Int64} {w5 : Int64} {w7 : Int64} {r1 : Nat} {z : ow_MS} {Q : ow_MS → Prop} (H : Tt (fun K k => qm_X13_makeCover_1 K (q_X13_makeCover K k) x2 x3 x4 x6 x7 x9 w4 w5 w7 r1 z) Q) : Tt (fun K k => q_X13_makeCover K k 1 x2 x3 x4 x6 x7 x9 w4 w5 w7 r1 z) Q := w_un (fun _ _ => rfl) H
theorem tp_makeCover {n : Nat} {A : rn_L} {sg : Nat → Bool} (hn : mw_net n) (hA : oNet z n A sg) : Te (fun K => qe_X13_makeCover K n z) (fun z1 => (∃ k, k ≤ 40 ∧ z1.1 67 = nI k) ∧ fr cvH z z1) := by
  obtain ⟨c, hok, hc⟩ := hA.2.2.1
  have hV := okF_len hok
  have hC := hA.2.2.2
  have hmn := net_mod hn
  let Q : ow_MS → Prop := fun z1 => (∃ k, k ≤ 40 ∧ z1.1 67 = nI k) ∧ fr cvH z z1
  refine e_X13_makeCover ?_
  refine u_X13_makeCover_0 ?_; unfold qm_X13_makeCover_0
  refine w_cs0 (tp_arcs hn hA hok) (fun z1 ⟨⟨a, ha, h58, hR⟩, f1⟩ => ?_)
  have hO1 : oNet z1 n A sg := oNet_fr f1 (fun g hg => by unfold arcH at hg; omega) hA
  refine w_rdF hO1.1.V (w_nzI (by decide) ?_)
  rw [hV, show nI (2 * c) / 2 = nI c from by rw [show nI (2 * c) / 2 = nI (2 * c / 2) from pk_div (d := 2) (by omega) (by omega) (by omega)]; congr 1; omega]
  have f0 : fr cvH z z1 := fr_mono (fun g hg => by unfold arcH at hg; unfold cvH; omega) f1
  have ha18 : a ≤ 18 := by omega
  have c9 : ∀ (d i cv : Nat) (x3 x6 : Int32) (w4 w7 : Int64) (y : ow_MS), cv ≤ 12 + d ∨ cv + d ≤ 31 → i + d = a → cv + d ≤ 31 → fr cvH z y → y.1 58 = nI a → y.1 67 = nI cv → Tt (fun K t => q_X13_makeCover K t 9 (nI c) x3 0 x6 0 (nI i) w4 0 w7 n y) Q := by
    intro d
    induction d with
    | zero =>
      intro i cv x3 x6 w4 w7 y _ hi hcv hf h58 h67
      refine u_X13_makeCover_9 ?_; unfold qm_X13_makeCover_9
      refine w_rdF h58 (w_ifT ?_ (w_some ⟨⟨cv, by omega, h67⟩, hf⟩))
      rw [nI_iI, nI_iI]
      show iI (a : Int) - iI 1 ≤ iI (i : Int)
      rw [iI_sub, iI_le (by omega) (by omega) (by omega) (by omega)]
      omega
    | succ d ih =>
      intro i cv x3 x6 w4 w7 y _ hi hcv hf h58 h67
      refine u_X13_makeCover_9 ?_; unfold qm_X13_makeCover_9
      refine w_rdF h58 (w_if (fun _ => w_some ⟨⟨cv, by omega, h67⟩, hf⟩) (fun _ => w_rdF h67 (w_wrJ ml66 rfl (by omega) (w_rdF (x := nI cv) h67 (w_wrF ?_)))))
      rw [nI_1]
      exact ih (i + 1) (cv + 1) x3 x6 w4 w7 _ (by omega) (by omega) (by omega) (fr_F2 (fr_J2 hf (by unfold cvH; omega)) (by unfold cvH; omega)) (rf_ot (by omega) h58) (po_usF_at.trans (nI_1 cv))
  have c7 : ∀ (d r cv t m q : Nat) (w4 w7 : Int64) (y : ow_MS), r + d = 12 → t ≤ c → cv ≤ r → w4 ≠ 0 → (12 < r + 1 → w7 = 0) → m ≤ 12 → q ≤ 18 → lvI y m q c a → fr cvH z y → y.1 58 = nI a → y.1 67 = nI cv → Tt (fun K i => q_X13_makeCover K i 7 (nI c) (nI t) 0 (nI r) 0 0 w4 0 w7 n y) Q := by
    intro d
    induction d with
    | zero =>
      intro r cv t m q w4 w7 y hr htc hcv hw4 hw7 hm hq hL hf h58 h67
      refine u_X13_makeCover_7 ?_; unfold qm_X13_makeCover_7
      rw [nI_add]
      refine w_ifT (cmp_0.mpr (hw7 (by omega))) ?_
      rcases Nat.lt_or_ge (t + r) a with h9 | h9
      · exact c9 (a - (t + r)) (t + r) cv _ _ _ _ y (by omega) (by omega) (by omega) hf h58 h67
      · refine u_X13_makeCover_9 ?_; unfold qm_X13_makeCover_9
        refine w_rdF h58 (w_ifT ?_ (w_some ⟨⟨cv, by omega, h67⟩, hf⟩))
        rw [nI_iI, nI_iI]
        show iI (a : Int) - iI 1 ≤ iI ((t + r : Nat) : Int)
        rw [iI_sub, iI_le (by omega) (by omega) (by omega) (by omega)]
        omega
    | succ d ih =>
      intro r cv t m q w4 w7 y hr htc hcv hw4 hw7 hm hq hL hf h58 h67
      have c8 : ∀ (cv : Nat) (y : ow_MS), cv ≤ r + 1 → w7 ≠ 0 → lvI y m q c a → fr cvH z y → y.1 58 = nI a → y.1 67 = nI cv → Tt (fun K i => q_X13_makeCover K i 8 (nI c) (nI t) 0 (nI (r + 1)) 0 0 w4 0 w7 n y) Q := by
        intro cv y hcv hw hL hf h58 h67
        refine u_X13_makeCover_8 ?_; unfold qm_X13_makeCover_8
        rw [nI_1]
        refine w_cs1 (tp_divisor (k := r + 1 + 1) (w := w7) hm hq hc ha18 (by omega) (by omega) hL) (fun a1 y1 ⟨f2, h0⟩ => ?_)
        exact ih (r + 1) cv t m q w7 a1 y1 (by omega) htc hcv hw (fun h9 => h0 (by omega)) hm hq ⟨by rw [(f2 70 (by omega)).1]; exact hL.1, by rw [(f2 71 (by omega)).1]; exact hL.2.1, fun i hi => inR_fr f2 (by omega) (hL.2.2.1 i hi), fun i hi => inR_fr f2 (by omega) (hL.2.2.2 i hi)⟩ (fr_tr hf (fr_mono (fun g hg => by unfold cvH; omega) f2)) (by rw [(f2 58 (by omega)).1]; exact h58) (by rw [(f2 67 (by omega)).1]; exact h67)
      refine u_X13_makeCover_7 ?_; unfold qm_X13_makeCover_7
      rw [nI_add, nI_1]
      refine w_if (fun _ => ?_) (fun h9 => w_if (fun _ => c8 cv y (by omega) (fun e => h9 (cmp_0.mpr e)) hL hf h58 h67) (fun _ => w_rdF h67 (w_nzJ hw4 (w_wrJ ml66 rfl (by omega) (w_rdF (x := nI cv) h67 (w_wrF (c8 (cv + 1) _ (by omega) (fun e => h9 (cmp_0.mpr e)) ⟨rf_ot (by omega) hL.1, rf_ot (by omega) hL.2.1, hL.2.2⟩ (fr_F2 (fr_J2 hf (by unfold cvH; omega)) (by unfold cvH; omega)) (rf_ot (by omega) h58) (po_usF_at.trans (nI_1 cv)))))))))
      rcases Nat.lt_or_ge (t + r) a with h8 | h8
      · exact c9 (a - (t + r)) (t + r) cv _ _ _ _ y (by omega) (by omega) (by omega) hf h58 h67
      · refine u_X13_makeCover_9 ?_; unfold qm_X13_makeCover_9
        refine w_rdF h58 (w_ifT ?_ (w_some ⟨⟨cv, by omega, h67⟩, hf⟩))
        rw [nI_iI, nI_iI]
        show iI (a : Int) - iI 1 ≤ iI ((t + r : Nat) : Int)
        rw [iI_sub, iI_le (by omega) (by omega) (by omega) (by omega)]
        omega
  have c6 : ∀ (t : Nat) (y : ow_MS), t ≤ c → t ≤ a → fr cvH z y → y.1 58 = nI a → Tt (fun K i => q_X13_makeCover K i 6 (nI c) (nI t) 0 0 0 0 0 0 0 n y) Q := by
    intro t y htc hta hf h58
    refine u_X13_makeCover_6 ?_; unfold qm_X13_makeCover_6
    refine w_cs0 (tp_leave htc hc hta ha18 h58) (fun y1 ⟨⟨m, q, hm, hq, hL⟩, f2⟩ => w_wrF ?_)
    have hL2 : lvI (usF y1 67 0) m q c a := ⟨rf_ot (by omega) hL.1, rf_ot (by omega) hL.2.1, hL.2.2⟩
    have h58' : (usF y1 67 0).1 58 = nI a := rf_ot (by omega) (by rw [(f2 58 (by omega)).1]; exact h58)
    have hf2 : fr cvH z (usF y1 67 0) := fr_F2 (fr_tr hf (fr_mono (fun g hg => by unfold cvH; omega) f2)) (by unfold cvH; omega)
    refine w_cs1 (tp_divisor (k := 1) (w := 1) (by omega) (by omega) hc ha18 (by omega) (by omega) hL2) (fun a1 y2 ⟨f3, _⟩ => ?_)
    exact c7 12 0 0 t m q 1 a1 y2 (by omega) htc (Nat.le_refl _) (by decide) (fun h9 => absurd h9 (by omega)) (by omega) (by omega) ⟨by rw [(f3 70 (by omega)).1]; exact hL2.1, by rw [(f3 71 (by omega)).1]; exact hL2.2.1, fun i hi => inR_fr f3 (by omega) (hL2.2.2.1 i hi), fun i hi => inR_fr f3 (by omega) (hL2.2.2.2 i hi)⟩ (fr_tr hf2 (fr_mono (fun g hg => by unfold cvH; omega) f3)) (by rw [(f3 58 (by omega)).1]; exact h58') (by rw [(f3 67 (by omega)).1]; exact po_usF_at)
  have c3 : ∀ (d t : Nat) (y : ow_MS), t + d = c → t ≤ a → fr cvH z y → y.1 58 = nI a → Tt (fun K i => q_X13_makeCover K i 3 (nI c) (nI t) 0 0 0 0 0 0 0 n y) Q := by
    intro d
    induction d with
    | zero =>
      intro t y ht hta hf h58
      refine u_X13_makeCover_3 ?_; unfold qm_X13_makeCover_3
      exact w_leT (by omega) (by omega) (c6 t y (by omega) hta hf h58)
    | succ d ih =>
      intro t y ht hta hf h58
      have c4 : ∀ (d2 i : Nat) (y : ow_MS), i + d2 = c → t < i → t < a → fr cvH z y → y.1 58 = nI a → Tt (fun K k => q_X13_makeCover K k 4 (nI c) (nI t) (nI i) 0 0 0 0 0 0 n y) Q := by
        intro d2
        induction d2 with
        | zero =>
          intro i y hi hti hta hf h58
          refine u_X13_makeCover_4 ?_; unfold qm_X13_makeCover_4
          rw [show nI t + 1 = nI (t + 1) from nI_1 _]
          exact w_leT (by omega) (by omega) (ih (t + 1) y (by omega) (by omega) hf h58)
        | succ d2 ih2 =>
          intro i y hi hti hta hf h58
          have c5 : ∀ (d3 j : Nat) (w5 : Int64) (y : ow_MS), j + d3 = a → fr cvH z y → y.1 58 = nI a → Tt (fun K k => q_X13_makeCover K k 5 (nI c) (nI t) (nI i) 0 (nI j) 0 0 w5 0 n y) Q := by
            intro d3
            induction d3 with
            | zero =>
              intro j w5 y hj hf h58
              refine u_X13_makeCover_5 ?_; unfold qm_X13_makeCover_5
              rw [show nI i + 1 = nI (i + 1) from nI_1 _]
              exact w_rdF h58 (w_leT (by omega) (by omega) (ih2 (i + 1) y (by omega) (by omega) hta hf h58))
            | succ d3 ih3 =>
              intro j w5 y hj hf h58
              refine u_X13_makeCover_5 ?_; unfold qm_X13_makeCover_5
              rw [show nI j + 1 = nI (j + 1) from nI_1 _, gr_ix, gr_ix]
              exact w_rdF h58 (w_leF (by omega) (by omega) (w_rdJ ml64 rfl (by omega) rfl (w_rdJ ml64 rfl (by omega) rfl (w_wrJ ml64 rfl (by omega) (ih3 (j + 1) w5 _ (by omega) (fr_J2 hf (by unfold cvH; omega)) h58)))))
          refine u_X13_makeCover_4 ?_; unfold qm_X13_makeCover_4
          rw [gr_ix, gr_ix]
          exact w_leF (by omega) (by omega) (w_rdJ ml64 rfl (by omega) rfl (w_rdJ ml64 rfl (by omega) rfl (c5 (a - t) t _ y (by omega) hf h58)))
      refine u_X13_makeCover_3 ?_; unfold qm_X13_makeCover_3
      refine w_leF (by omega) (by omega) (w_rdF h58 (w_le (by omega) (by omega) (fun _ => c6 t y (by omega) hta hf h58) (fun hta2 => w_cs1 (tp_unit (by omega) hc hta2 ha18 h58) (fun a1 y1 f2 => ?_))))
      have f2 : fr (fun g => g = 64) y y1 := f2
      have hf2 : fr cvH z y1 := fr_tr hf (fr_mono (fun g hg => by unfold cvH; omega) f2)
      have h58' : y1.1 58 = nI a := by rw [(f2 58 (by omega)).1]; exact h58
      rw [show nI t + 1 = nI (t + 1) from nI_1 _]
      exact w_if (fun _ => c6 t y1 (by omega) hta hf2 h58') (fun _ => c4 (c - (t + 1)) (t + 1) y1 (by omega) (by omega) hta2 hf2 h58')
  have c2 : ∀ (d x : Nat) (y : ow_MS), x + d = c → fr cvH z y → arcI y c a → Tt (fun K k => q_X13_makeCover K k 2 (nI c) (nI x) 0 0 0 0 0 0 0 n y) Q := by
    intro d
    induction d with
    | zero =>
      intro x y hx hf hI
      refine u_X13_makeCover_2 ?_; unfold qm_X13_makeCover_2
      exact w_leT (by omega) (by omega) (c3 c 0 y (by omega) (Nat.zero_le _) hf hI.1)
    | succ d ih =>
      intro x y hx hf hI
      obtain ⟨⟨i, hi, ei⟩, ⟨j, hj, ej⟩, ⟨k, hk, ek⟩⟩ := hI.2 x (by omega)
      refine u_X13_makeCover_2 ?_; unfold qm_X13_makeCover_2
      rw [nI_1]
      refine w_leF (by omega) (by omega) (w_rdI ml61 rfl (by omega) ei (w_rdJ (i := 24 * x + i) ml64 gr_ix (by omega) rfl (w_wrJ (i := 24 * x + i) ml64 gr_ix (by omega) (w_rdI ml62 rfl (by omega) ej (w_rdJ (i := 24 * x + j) ml64 gr_ix (by omega) rfl (w_wrJ (i := 24 * x + j) ml64 gr_ix (by omega) (w_rdI ml63 rfl (by omega) ek (w_rdJ (i := 24 * x + k) ml64 gr_ix (by omega) rfl (w_wrJ (i := 24 * x + k) ml64 gr_ix (by omega) (ih (x + 1) _ (by omega) (fr_J2 (fr_J2 (fr_J2 hf (by unfold cvH; omega)) (by unfold cvH; omega)) (by unfold cvH; omega)) hI))))))))))
  have c1 : ∀ (d k : Nat) (y : ow_MS), k + d = 312 → fr cvH z y → arcI y c a → Tt (fun K t => q_X13_makeCover K t 1 (nI c) (nI k) 0 0 0 0 0 0 0 n y) Q := by
    intro d
    induction d with
    | zero =>
      intro k y hk hf hI
      refine u_X13_makeCover_1 ?_; unfold qm_X13_makeCover_1
      exact w_leT (a := 312) (by omega) (by omega) (c2 c 0 y (by omega) hf hI)
    | succ d ih =>
      intro k y hk hf hI
      refine u_X13_makeCover_1 ?_; unfold qm_X13_makeCover_1
      rw [nI_1]
      exact w_leF (a := 312) (by omega) (by omega) (w_wrJ ml64 rfl (by omega) (ih (k + 1) _ (by omega) (fr_J2 hf (by unfold cvH; omega)) hI))
  exact c1 312 0 z1 (by omega) f0 ⟨h58, hR⟩
theorem e_X13_coverOf {x1 : Int32} {z : ow_MS} {Q : ow_MS → Prop} (H : Tt (fun K k => q_X13_coverOf K k 0 x1 0 z) Q) : Te (fun K => qe_X13_coverOf K x1 z) Q := w_te H
theorem u_X13_coverOf_0 {x1 : Int32} {x2 : Int32} {z : ow_MS} {Q : ow_MS → Prop} (H : Tt (fun K k => qm_X13_coverOf_0 K (q_X13_coverOf K k) x1 x2 z) Q) : Tt (fun K k => q_X13_coverOf K k 0 x1 x2 z) Q := w_un (fun _ _ => rfl) H
theorem u_X13_coverOf_1 {x1 : Int32} {x2 : Int32} {z : ow_MS} {Q : ow_MS → Prop} (H : Tt (fun K k => qm_X13_coverOf_1 K (q_X13_coverOf K k) x1 x2 z) Q) : Tt (fun K k => q_X13_coverOf K k 1 x1 x2 z) Q := w_un (fun _ _ => rfl) H
theorem tp_coverOf {e : Nat} {A : rn_L} {sg : Nat → Bool} (h : gI X z) (he : e < 40) (hv : vRow z 12 (32 * e) A sg) : Te (fun K => qe_X13_coverOf K (nI e) z) (fun z1 => gI X z1) := by
  obtain ⟨_, _, _, ⟨T1, k1⟩, kC⟩ := h.2.2.2.2.1
  have hTl := hv.1.1
  refine e_X13_coverOf ?_
  refine u_X13_coverOf_0 ?_; unfold qm_X13_coverOf_0
  rw [show (32 : Int32) * nI e = nI (32 * e) from pk_mul 32 e]
  refine w_cs1 (tr_same (o := 32 * e) (p := 0) ml12 ml65 (by omega) (by omega) (by omega) (by omega) hv.1 k1) (fun a y e9 => ?_)
  cases e9
  refine w_if (fun _ => ?_) (fun _ => w_some h)
  refine w_cs0 (to_open pn1 he hv) (fun z2 ⟨o2, f2⟩ => w_cs0 (tp_makeCover pn1 o2) (fun z3 ⟨⟨cv, hcv, h67⟩, f3⟩ => ?_))
  have hf3 : fr (fun g => 1000 ≤ g ∨ 58 ≤ g ∧ g ≤ 64 ∨ 66 ≤ g ∧ g ≤ 72) z z3 := fr_tr (fr_mono (fun g hg => by omega) f2) (fr_mono (fun g hg => by unfold cvH at hg; omega) f3)
  have g3 : gI X z3 := by
    refine gI_cash hf3 (fun g hg => ?_) ?_ h
    · by_cases h67 : g = 67
      · exact Or.inl (by omega)
      · exact Or.inr (by unfold per; omega)
    · obtain ⟨⟨T2, k2⟩, ⟨T3, k3⟩, ⟨T4, k4⟩, ⟨T5, k5⟩, -⟩ := h.2.2.2.2.1
      exact ⟨⟨T2, rc_fr hf3 (by omega) k2⟩, ⟨T3, rc_fr hf3 (by omega) k3⟩, ⟨T4, rc_fr hf3 (by omega) k4⟩, ⟨T5, rc_fr hf3 (by omega) k5⟩, cv, hcv, h67⟩
  have lp2 : ∀ (dd i : Nat) (y : ow_MS), i + dd = 32 → fr (fun g => g = 65) z3 y → (∀ t, t < i → y.2.1 65 t = z3.2.1 12 (32 * e + t)) → Tt (fun K t => q_X13_coverOf K t 1 (nI e) (nI i) y) (fun z1 => gI X z1) := by
    intro dd
    induction dd with
    | zero =>
      intro i y hi hf ht
      refine u_X13_coverOf_1 ?_; unfold qm_X13_coverOf_1
      refine w_leT (a := 32) (by omega) (by omega) (w_some (gI_cash hf (fun g hg => Or.inl (Or.inr (Or.inr (Or.inr (Or.inl hg))))) ?_ g3))
      obtain ⟨⟨T2, k2⟩, ⟨T3, k3⟩, ⟨T4, k4⟩, -, cc, k5, k6⟩ := g3.2.2.2.2.1
      have hrow : rc_At z3 12 (32 * e) (tk sg A) := rc_fr hf3 (by omega) hv.1
      exact ⟨⟨T2, rc_fr hf (by decide) k2⟩, ⟨T3, rc_fr hf (by decide) k3⟩, ⟨T4, rc_fr hf (by decide) k4⟩, ⟨_, rc_cpy hrow (fun t h9 => ht t (by omega))⟩, cc, k5, by rw [(hf 67 (by decide)).1]; exact k6⟩
    | succ dd ih =>
      intro i y hi hf ht
      refine u_X13_coverOf_1 ?_; unfold qm_X13_coverOf_1
      rw [show (32 : Int32) * nI e = nI (32 * e) from pk_mul 32 e, nI_add, nI_1]
      refine w_leF (a := 32) (by omega) (by omega) (w_rdI ml12 rfl (by omega) rfl (w_wrI ml65 rfl (by omega) (ih (i + 1) _ (by omega) (fr_I2 hf rfl) (fun t h9 => ?_))))
      by_cases hti : t = i
      · rw [hti, po_usI_at, (hf 12 (by decide)).2.1]
      · exact rd_ne hti (ht t (by omega))
  exact lp2 32 0 z3 (by omega) fr_rf (fun t ht => absurd ht (by omega))
theorem u_X13_cover_1 {x1 : Int32} {x2 : Int32} {z : ow_MS} {Q : (Int32 × ow_MS) → Prop} (H : Tt (fun K k => qm_X13_cover_1 K (q_X13_cover K k) x1 x2 z) Q) : Tt (fun K k => q_X13_cover K k 1 x1 x2 z) Q := w_un (fun _ _ => rfl) H
theorem e_X13_cover {x1 : Int32} {x2 : Int32} {z : ow_MS} {Q : (Int32 × ow_MS) → Prop} (H : Tt (fun K k => q_X13_cover K k 0 x1 x2 z) Q) : Te (fun K => qe_X13_cover K x1 x2 z) Q := w_te H
theorem u_X13_cover_0 {x1 : Int32} {x2 : Int32} {z : ow_MS} {Q : (Int32 × ow_MS) → Prop} (H : Tt (fun K k => qm_X13_cover_0 K (q_X13_cover K k) x1 x2 z) Q) : Tt (fun K k => q_X13_cover K k 0 x1 x2 z) Q := w_un (fun _ _ => rfl) H
theorem tp_cover {d k : Int32} (h : gI X z) : Te (fun K => qe_X13_cover K d k z) (fun r => gI X r.2) := by
  have h1 := gI_1 (c := 0) h
  have c1 : ∀ {x1 x2 : Int32} {y : ow_MS}, gI X y → Tt (fun K i => q_X13_cover K i 1 x1 x2 y) (fun r => gI X r.2) := by
    intro x1 x2 y hy
    refine u_X13_cover_1 ?_; unfold qm_X13_cover_1
    exact w_some hy
  refine e_X13_cover ?_
  refine u_X13_cover_0 ?_; unfold qm_X13_cover_0
  refine w_wrF (w_has h1.2.1 (w_ifT rfl (w_fail h1)) (fun e A sg he hx hv hne => w_ifF (by decide) ?_))
  subst hx
  refine w_cs0 (tp_coverOf h1 he hv) (fun y gy => w_if (fun _ => c1 gy) (fun h0 => ?_))
  obtain ⟨_, _, _, _, cc, k5, k6⟩ := gy.2.2.2.2.1
  obtain ⟨a, ha, rfl⟩ := nI_of h0
  exact w_rdF k6 (w_lt ha (by omega) (fun h9 => w_rdJ ml66 rfl (by omega) rfl (w_some gy)) (fun _ => c1 gy))
theorem u_X13_colours_1 {x1 : Int32} {x2 : Int32} {x5 : Int32} {w3 : Int64} {z : ow_MS} {Q : (Int64 × ow_MS) → Prop} (H : Tt (fun K k => qm_X13_colours_1 K (q_X13_colours K k) x1 x2 x5 w3 z) Q) : Tt (fun K k => q_X13_colours K k 1 x1 x2 x5 w3 z) Q := w_un (fun _ _ => rfl) H
theorem e_X13_colours {x1 : Int32} {x2 : Int32} {z : ow_MS} {Q : (Int64 × ow_MS) → Prop} (H : Tt (fun K k => q_X13_colours K k 0 x1 x2 0 0 z) Q) : Te (fun K => qe_X13_colours K x1 x2 z) Q := w_te H
theorem u_X13_colours_0 {x1 : Int32} {x2 : Int32} {x5 : Int32} {w3 : Int64} {z : ow_MS} {Q : (Int64 × ow_MS) → Prop} (H : Tt (fun K k => qm_X13_colours_0 K (q_X13_colours K k) x1 x2 x5 w3 z) Q) : Tt (fun K k => q_X13_colours K k 0 x1 x2 x5 w3 z) Q := w_un (fun _ _ => rfl) H
theorem u_X13_colours_2 {x1 : Int32} {x2 : Int32} {x5 : Int32} {w3 : Int64} {z : ow_MS} {Q : (Int64 × ow_MS) → Prop} (H : Tt (fun K k => qm_X13_colours_2 K (q_X13_colours K k) x1 x2 x5 w3 z) Q) : Tt (fun K k => q_X13_colours K k 2 x1 x2 x5 w3 z) Q := w_un (fun _ _ => rfl) H
theorem tp_colours {d k : Int32} (h : gI X z) : Te (fun K => qe_X13_colours K d k z) (fun r => gI X r.2) := by
  have h1 := gI_1 (c := 0) h
  have c1 : ∀ {x1 x2 : Int32} {y : ow_MS}, gI X y → Tt (fun K i => q_X13_colours K i 1 x1 x2 0 0 y) (fun r => gI X r.2) := by
    intro x1 x2 y hy
    refine u_X13_colours_1 ?_; unfold qm_X13_colours_1
    refine w_cs1 tm_fails (fun a z1 e => ?_)
    cases e
    exact w_some (gI_1 hy)
  refine e_X13_colours ?_
  refine u_X13_colours_0 ?_; unfold qm_X13_colours_0
  refine w_wrF (w_has h1.2.1 (w_ifT rfl (w_cs1 tm_fails (fun a z1 e => ?_))) (fun e A sg he hx hv hne => w_ifF (by decide) (w_if (fun _ => c1 h1) (fun h0 => w_if (fun _ => ?_) (fun _ => c1 h1)))))
  · cases e
    exact w_some (gI_1 h1)
  subst hx
  refine w_cs0 (tp_coverOf h1 he hv) (fun y gy => ?_)
  obtain ⟨_, _, _, _, cc, k5, k6⟩ := gy.2.2.2.2.1
  have c2 : ∀ (dd i : Nat) (w : Int64), i + dd = cc → Tt (fun K t => q_X13_colours K t 2 (nI e) k (nI i) w y) (fun r => gI X r.2) := by
    intro dd
    induction dd with
    | zero =>
      intro i w hi
      refine u_X13_colours_2 ?_; unfold qm_X13_colours_2
      exact w_rdF k6 (w_leT (by omega) (by omega) (w_some gy))
    | succ dd ih =>
      intro i w hi
      refine u_X13_colours_2 ?_; unfold qm_X13_colours_2
      refine w_rdF k6 (w_leF (by omega) (by omega) (w_rdJ ml66 rfl (by omega) rfl (w_cs1 tp_gcd (fun a1 y1 e1 => ?_))))
      have e1 : y1 = y := e1
      subst e1
      rw [nI_1]
      exact ih (i + 1) _ (by omega)
  exact c2 cc 0 _ (by omega)
end COV
end
section
/-! 99zzzo.maps -/
/-! maps has an answer -/
/-- how many permutations there are -/
def thM (m : Nat) : Nat := if m = 2 then 2 else if m = 3 then 6 else if m = 4 then 24 else 1
theorem thM_le (m : Nat) : 1 ≤ thM m ∧ thM m ≤ 24 := by
  unfold thM
  split
  · omega
  · split
    · omega
    · split <;> omega
/-- what the tables of permutations say -/
def XM (W : Nat → Nat → Int32) : Prop := (∀ m, m ≤ 4 → W 73 m = nI (thM m)) ∧ ∀ m, 1 ≤ m → m ≤ 4 → ∀ o p, o < thM m → p < thM m → (∃ q, q < thM m ∧ W 75 (576 * m + 24 * o + p) = nI q) ∧ ∃ q, q < thM m ∧ W 76 (576 * m + 24 * o + p) = nI q
def XMz (y : ow_MS) : Prop := XM (fun g => y.2.1 (if g = 53 ∨ 73 ≤ g ∧ g ≤ 76 ∨ 97 ≤ g ∧ g ≤ 105 then g else 73))
theorem XMz_th {y : ow_MS} {m : Nat} (h : XMz y) (hm : m ≤ 4) : y.2.1 73 m = nI (thM m) := h.1 m hm
theorem XMz_tb {y : ow_MS} {m o p r : Nat} (h : XMz y) (h1 : 1 ≤ m) (h4 : m ≤ 4) (ho : o < thM m) (hp : p < thM m) (hr : r = 75 ∨ r = 76) : inR y r (576 * m + 24 * o + p) (thM m) := by
  obtain ⟨a, b⟩ := h.2 m h1 h4 o p ho hp
  rcases hr with rfl | rfl
  · exact a
  · exact b
theorem XMz_fr {P : Nat → Prop} {y y1 : ow_MS} (hf : fr P y y1) (hP : ∀ g, P g → ¬ (73 ≤ g ∧ g ≤ 76)) (h : XMz y) : XMz y1 := by
  have e : ∀ g, 73 ≤ g → g ≤ 76 → y1.2.1 g = y.2.1 g := fun g h1 h2 => (hf g (fun h9 => hP g h9 ⟨h1, h2⟩)).2.1
  refine ⟨fun m hm => ?_, fun m h1 h4 o p ho hp => ?_⟩
  · show y1.2.1 73 m = _
    rw [e 73 (by omega) (by omega)]
    exact h.1 m hm
  · show (∃ q, q < thM m ∧ y1.2.1 75 _ = nI q) ∧ ∃ q, q < thM m ∧ y1.2.1 76 _ = nI q
    rw [e 75 (by omega) (by omega), e 76 (by omega) (by omega)]
    exact h.2 m h1 h4 o p ho hp
/-- what has been given: T the trail -/
def mgI (y : ow_MS) (a m : Nat) (T : List Nat) : Prop := y.1 79 = nI T.length ∧ T.Nodup ∧ (∀ b, b ∈ T → b < a) ∧ (∀ i b, T[i]? = some b → y.2.1 78 i = nI b) ∧ ∀ b, b < 40 → (b ∉ T ∧ y.2.1 77 b = -1) ∨ (b ∈ T ∧ ∃ q, q < thM m ∧ y.2.1 77 b = nI q)
theorem mgI_len {y : ow_MS} {a m : Nat} {T : List Nat} (h : mgI y a m T) : T.length ≤ a := by
  have := nodup_le T (List.range a) h.2.1 (fun b hb => List.mem_range.mpr (h.2.2.1 b hb))
  rw [List.length_range] at this
  exact this
theorem mgI_room {y : ow_MS} {a m b : Nat} {T : List Nat} (h : mgI y a m T) (hb : b < a) (hn : b ∉ T) : T.length < a := by
  have := nodup_le (b :: T) (List.range a) (List.nodup_cons.mpr ⟨hn, h.2.1⟩) (fun c hc => by
    rcases List.mem_cons.mp hc with h9 | h9
    · rw [h9]; exact List.mem_range.mpr hb
    · exact List.mem_range.mpr (h.2.2.1 c h9))
  rw [List.length_range, List.length_cons] at this
  omega
abbrev gvH (g : Nat) : Prop := 77 ≤ g ∧ g ≤ 79
section MAPS
variable {X : (Nat → Nat → Int32) → Prop} {z : ow_MS}
theorem e_X13_give {x1 : Int32} {x2 : Int32} {z : ow_MS} {Q : ow_MS → Prop} (H : Tt (fun K _ => qm_X13_give_0 K x1 x2 z) Q) : Te (fun K => qe_X13_give K x1 x2 z) Q := w_te0 H
theorem tp_give {a m b q : Nat} {T : List Nat} (ha : a ≤ 18) (hI : mgI z a m T) (hb : b < a) (hn : b ∉ T) (hq : q < thM m) : Te (fun K => qe_X13_give K (nI b) (nI q) z) (fun z1 => mgI z1 a m (T ++ [b]) ∧ fr gvH z z1) := by
  have hr := mgI_room hI hb hn
  obtain ⟨h1, h2, h3, h4, h5⟩ := hI
  refine e_X13_give ?_; unfold qm_X13_give_0
  refine w_wrI ml77 rfl (by omega) (w_rdF (x := nI T.length) h1 (w_wrI ml78 rfl (by omega) (w_rdF (x := nI T.length) h1 (w_wrF (w_some ⟨⟨?_, ?_, fun c hc => ?_, fun i c hc => ?_, fun c hc => ?_⟩, ?_⟩)))))
  · rw [po_usF_at, List.length_append]
    exact nI_1 _
  · rw [List.nodup_append]
    refine ⟨h2, by simp, fun x hx y hy e => hn ?_⟩
    have : y = b := by simpa using hy
    rw [← this, ← e]
    exact hx
  · rcases List.mem_append.mp hc with h9 | h9
    · exact h3 c h9
    · have : c = b := by simpa using h9
      omega
  · show (usI (usI z 77 b (nI q)) 78 T.length (nI b)).2.1 78 i = nI c
    by_cases hi : i = T.length
    · rw [hi, List.getElem?_append_right (Nat.le_refl _), Nat.sub_self] at hc
      cases hc
      rw [hi, po_usI_at]
    · have hlt : i < T.length := by
        have h9 := (List.getElem?_eq_some_iff.mp hc).1
        rw [List.length_append] at h9
        have h9 : i < T.length + 1 := h9
        omega
      rw [List.getElem?_append_left hlt] at hc
      exact rd_ne hi (rd_ot (by omega) (h4 i c hc))
  · show (c ∉ T ++ [b] ∧ (usI (usI z 77 b (nI q)) 78 T.length (nI b)).2.1 77 c = -1) ∨ (c ∈ T ++ [b] ∧ ∃ q', q' < thM m ∧ (usI (usI z 77 b (nI q)) 78 T.length (nI b)).2.1 77 c = nI q')
    by_cases hcb : c = b
    · rw [hcb]
      exact Or.inr ⟨List.mem_append_right _ (List.mem_singleton.mpr rfl), q, hq, rd_ot (by omega) po_usI_at⟩
    · rcases h5 c hc with ⟨k1, k2⟩ | ⟨k1, k2, k3, k4⟩
      · refine Or.inl ⟨fun h9 => ?_, rd_ot (by omega) (rd_ne hcb k2)⟩
        rcases List.mem_append.mp h9 with h8 | h8
        · exact k1 h8
        · exact hcb (by simpa using h8)
      · exact Or.inr ⟨List.mem_append_left _ k1, k2, k3, rd_ot (by omega) (rd_ne hcb k4)⟩
  · exact fr_F2 (fr_I2 (fr_I (by unfold gvH; omega)) (by unfold gvH; omega)) (by unfold gvH; omega)
theorem u_X13_takeBack_0 {x1 : Int32} {z : ow_MS} {Q : ow_MS → Prop} (H : Tt (fun K k => qm_X13_takeBack_0 K (q_X13_takeBack K k) x1 z) Q) : Tt (fun K k => q_X13_takeBack K k 0 x1 z) Q := w_un (fun _ _ => rfl) H
theorem e_X13_takeBack {x1 : Int32} {z : ow_MS} {Q : ow_MS → Prop} (H : Tt (fun K k => q_X13_takeBack K k 0 x1 z) Q) : Te (fun K => qe_X13_takeBack K x1 z) Q := w_te H
theorem tp_takeBack {a m k : Nat} (ha : a ≤ 18) : ∀ {z : ow_MS} {T E : List Nat}, mgI z a m (T ++ E) → T.length = k → Te (fun K => qe_X13_takeBack K (nI k) z) (fun z1 => mgI z1 a m T ∧ fr gvH z z1) := by
  intro z T E hI hk
  have key : ∀ (d : Nat) (E : List Nat) (y : ow_MS), E.length = d → mgI y a m (T ++ E) → fr gvH z y → Tt (fun K i => q_X13_takeBack K i 0 (nI k) y) (fun z1 => mgI z1 a m T ∧ fr gvH z z1) := by
    intro d
    induction d with
    | zero =>
      intro E y hE hI hf
      have hE : E = [] := List.length_eq_zero_iff.mp hE
      subst hE
      rw [List.append_nil] at hI
      have := mgI_len hI
      refine u_X13_takeBack_0 ?_; unfold qm_X13_takeBack_0
      exact w_rdF hI.1 (w_leT (by omega) (by omega) (w_some ⟨hI, hf⟩))
    | succ d ih =>
      intro E y hE hI hf
      have hlen := mgI_len hI
      rw [List.length_append] at hlen
      obtain ⟨F, b, rfl⟩ : ∃ F b, E = F ++ [b] := by
        rcases List.eq_nil_or_concat E with h9 | ⟨F, b, h9⟩
        · rw [h9] at hE
          cases hE
        · exact ⟨F, b, by rw [h9, List.concat_eq_append]⟩
      rw [List.length_append] at hE hlen
      have hE : F.length + 1 = d + 1 := hE
      have hlen : T.length + (F.length + 1) ≤ a := hlen
      obtain ⟨h1, h2, h3, h4, h5⟩ := hI
      rw [← List.append_assoc] at h1 h2 h3 h4 h5
      have hb : b < a := h3 b (List.mem_append_right _ (List.mem_singleton.mpr rfl))
      have hL : ((T ++ F) ++ [b]).length = T.length + F.length + 1 := by
        rw [List.length_append, List.length_append]
        rfl
      rw [hL] at h1
      have h78 := h4 (T.length + F.length) b (by rw [List.getElem?_append_right (by rw [List.length_append]; exact Nat.le_refl _), List.length_append, Nat.sub_self]; rfl)
      have hnb : b ∉ T ++ F := fun h9 => (List.nodup_append.mp h2).2.2 b h9 b (List.mem_singleton.mpr rfl) rfl
      have e79 : nI (T.length + F.length + 1) - 1 = nI (T.length + F.length) := pk_sub (b := 1) (by omega)
      refine u_X13_takeBack_0 ?_; unfold qm_X13_takeBack_0
      refine w_rdF h1 (w_leF (by omega) (by omega) (w_rdF h1 (w_wrF (w_rdF (x := nI (T.length + F.length)) (po_usF_at.trans e79) (w_rdI ml78 rfl (by omega) h78 (w_wrI ml77 rfl (by omega) (ih F _ (by omega) ⟨?_, (List.nodup_append.mp h2).1, fun c hc => h3 c (List.mem_append_left _ hc), fun i c hc => ?_, fun c hc => ?_⟩ (fr_I2 (fr_F2 hf (by unfold gvH; omega)) (by unfold gvH; omega)))))))))
      · show (usF y 79 (nI (T.length + F.length + 1) - 1)).1 79 = _
        rw [po_usF_at, e79, List.length_append]
      · show (usI (usF y 79 (nI (T.length + F.length + 1) - 1)) 77 b (-1)).2.1 78 i = nI c
        refine rd_ot (by omega) (h4 i c ?_)
        rw [List.getElem?_append_left (List.getElem?_eq_some_iff.mp hc).1]
        exact hc
      · show (c ∉ T ++ F ∧ (usI (usF y 79 (nI (T.length + F.length + 1) - 1)) 77 b (-1)).2.1 77 c = -1) ∨ (c ∈ T ++ F ∧ ∃ q, q < thM m ∧ (usI (usF y 79 (nI (T.length + F.length + 1) - 1)) 77 b (-1)).2.1 77 c = nI q)
        by_cases hcb : c = b
        · rw [hcb]
          exact Or.inl ⟨hnb, po_usI_at⟩
        · rcases h5 c hc with ⟨k1, k2⟩ | ⟨k1, q, k3, k4⟩
          · exact Or.inl ⟨fun h9 => k1 (List.mem_append_left _ h9), rd_ne hcb k2⟩
          · refine Or.inr ⟨?_, q, k3, rd_ne hcb k4⟩
            rcases List.mem_append.mp k1 with h8 | h8
            · exact h8
            · exact absurd (by simpa using h8) hcb
  refine e_X13_takeBack ?_
  exact key E.length E z rfl hI fr_rf
/-- the net, the arcs, the tables while maps are counted -/
def mcI (y : ow_MS) (n : Nat) (A : rn_L) (sg : Nat → Bool) (c a : Nat) : Prop := oNet y n A sg ∧ arcI y c a ∧ XMz y
theorem mcI_fr {n : Nat} {y y1 : ow_MS} {A : rn_L} {sg : Nat → Bool} {c a : Nat} {P : Nat → Prop} (hn : mw_net n) (hf : fr P y y1) (hP : ∀ g, P g → 77 ≤ g ∧ g ≤ 80) (h : mcI y n A sg c a) : mcI y1 n A sg c a := by
  have hmn := net_mod hn
  refine ⟨oNet_fr hf (fun g hg => by have := hP g hg; omega) h.1, ⟨by rw [(hf 58 (fun h9 => by have := hP _ h9; omega)).1]; exact h.2.1.1, fun x hx => ?_⟩, XMz_fr hf (fun g hg => by have := hP g hg; omega) h.2.2⟩
  obtain ⟨k1, k2, k3⟩ := h.2.1.2 x hx
  exact ⟨inR_fr hf (fun h9 => by have := hP _ h9; omega) k1, inR_fr hf (fun h9 => by have := hP _ h9; omega) k2, inR_fr hf (fun h9 => by have := hP _ h9; omega) k3⟩
theorem tb_ix {m o p : Nat} : (576 : Int32) * nI m + 24 * nI o + nI p = nI (576 * m + 24 * o + p) := by
  rw [show (576 : Int32) * nI m = nI (576 * m) from pk_mul 576 m, show (24 : Int32) * nI o = nI (24 * o) from pk_mul 24 o, nI_add, nI_add]
theorem tb_len {r : Nat} (hr : r = 75 ∨ r = 76) : (mX.2 r).2.1 = 2880 := by
  rcases hr with rfl | rfl
  · exact ml75
  · exact ml76
theorem half_V {c : Nat} (hc : c ≤ 40) : nI (2 * c) / 2 = nI c := by
  rw [show nI (2 * c) / 2 = nI (2 * c / 2) from pk_div (d := 2) (by omega) (by omega) (by omega)]
  congr 1
  omega
theorem u_X13_follows_2 {x2 : Int32} {x3 : Int32} {x4 : Int32} {x5 : Int32} {x8 : Int32} {x9 : Int32} {r1 : Nat} {r6 : Nat} {r7 : Nat} {g0 : Nat} {z : ow_MS} {Q : (Int32 × ow_MS) → Prop} (H : Tt (fun K k => qm_X13_follows_2 K (q_X13_follows K k) x2 x3 x4 x5 x8 x9 r1 r6 r7 g0 z) Q) : Tt (fun K k => q_X13_follows K k 2 x2 x3 x4 x5 x8 x9 r1 r6 r7 g0 z) Q := w_un (fun _ _ => rfl) H
theorem u_X13_follows_1 {x2 : Int32} {x3 : Int32} {x4 : Int32} {x5 : Int32} {x8 : Int32} {x9 : Int32} {r1 : Nat} {r6 : Nat} {r7 : Nat} {g0 : Nat} {z : ow_MS} {Q : (Int32 × ow_MS) → Prop} (H : Tt (fun K k => qm_X13_follows_1 K (q_X13_follows K k) x2 x3 x4 x5 x8 x9 r1 r6 r7 g0 z) Q) : Tt (fun K k => q_X13_follows K k 1 x2 x3 x4 x5 x8 x9 r1 r6 r7 g0 z) Q := w_un (fun _ _ => rfl) H
theorem u_X13_follows_7 {x2 : Int32} {x3 : Int32} {x4 : Int32} {x5 : Int32} {x8 : Int32} {x9 : Int32} {r1 : Nat} {r6 : Nat} {r7 : Nat} {g0 : Nat} {z : ow_MS} {Q : (Int32 × ow_MS) → Prop} (H : Tt (fun K k => qm_X13_follows_7 K (q_X13_follows K k) x2 x3 x4 x5 x8 x9 r1 r6 r7 g0 z) Q) : Tt (fun K k => q_X13_follows K k 7 x2 x3 x4 x5 x8 x9 r1 r6 r7 g0 z) Q := w_un (fun _ _ => rfl) H
theorem u_X13_follows_6 {x2 : Int32} {x3 : Int32} {x4 : Int32} {x5 : Int32} {x8 : Int32} {x9 : Int32} {r1 : Nat} {r6 : Nat} {r7 : Nat} {g0 : Nat} {z : ow_MS} {Q : (Int32 × ow_MS) → Prop} (H : Tt (fun K k => qm_X13_follows_6 K (q_X13_follows K k) x2 x3 x4 x5 x8 x9 r1 r6 r7 g0 z) Q) : Tt (fun K k => q_X13_follows K k 6 x2 x3 x4 x5 x8 x9 r1 r6 r7 g0 z) Q := w_un (fun _ _ => rfl) H
theorem u_X13_follows_5 {x2 : Int32} {x3 : Int32} {x4 : Int32} {x5 : Int32} {x8 : Int32} {x9 : Int32} {r1 : Nat} {r6 : Nat} {r7 : Nat} {g0 : Nat} {z : ow_MS} {Q : (Int32 × ow_MS) → Prop} (H : Tt (fun K k => qm_X13_follows_5 K (q_X13_follows K k) x2 x3 x4 x5 x8 x9 r1 r6 r7 g0 z) Q) : Tt (fun K k => q_X13_follows K k 5 x2 x3 x4 x5 x8 x9 r1 r6 r7 g0 z) Q := w_un (fun _ _ => rfl) H
theorem u_X13_follows_4 {x2 : Int32} {x3 : Int32} {x4 : Int32} {x5 : Int32} {x8 : Int32} {x9 : Int32} {r1 : Nat} {r6 : Nat} {r7 : Nat} {g0 : Nat} {z : ow_MS} {Q : (Int32 × ow_MS) → Prop} (H : Tt (fun K k => qm_X13_follows_4 K (q_X13_follows K k) x2 x3 x4 x5 x8 x9 r1 r6 r7 g0 z) Q) : Tt (fun K k => q_X13_follows K k 4 x2 x3 x4 x5 x8 x9 r1 r6 r7 g0 z) Q := w_un (fun _ _ => rfl) H
theorem u_X13_follows_3 {x2 : Int32} {x3 : Int32} {x4 : Int32} {x5 : Int32} {x8 : Int32} {x9 : Int32} {r1 : Nat} {r6 : Nat} {r7 : Nat} {g0 : Nat} {z : ow_MS} {Q : (Int32 × ow_MS) → Prop} (H : Tt (fun K k => qm_X13_follows_3 K (q_X13_follows K k) x2 x3 x4 x5 x8 x9 r1 r6 r7 g0 z) Q) : Tt (fun K k => q_X13_follows K k 3 x2 x3 x4 x5 x8 x9 r1 r6 r7 g0 z) Q := w_un (fun _ _ => rfl) H
theorem e_X13_follows {r1 : Nat} {x2 : Int32} {z : ow_MS} {Q : (Int32 × ow_MS) → Prop} (H : Tt (fun K k => q_X13_follows K k 0 x2 0 0 0 0 0 r1 0 0 0 z) Q) : Te (fun K => qe_X13_follows K r1 x2 z) Q := w_te H
theorem u_X13_follows_0 {x2 : Int32} {x3 : Int32} {x4 : Int32} {x5 : Int32} {x8 : Int32} {x9 : Int32} {r1 : Nat} {r6 : Nat} {r7 : Nat} {g0 : Nat} {z : ow_MS} {Q : (Int32 × ow_MS) → Prop} (H : Tt (fun K k => qm_X13_follows_0 K (q_X13_follows K k) x2 x3 x4 x5 x8 x9 r1 r6 r7 g0 z) Q) : Tt (fun K k => q_X13_follows K k 0 x2 x3 x4 x5 x8 x9 r1 r6 r7 g0 z) Q := w_un (fun _ _ => rfl) H
theorem tp_follows {n m c a : Nat} {A : rn_L} {sg : Nat → Bool} (hn : mw_net n) (hm1 : 1 ≤ m) (hm4 : m ≤ 4) (hV : A.flatten.length = 2 * c) (hc : c ≤ 12) (ha : a ≤ 18) {T : List Nat} (hI : mgI z a m T) (hM : mcI z n A sg c a) : Te (fun K => qe_X13_follows K n (nI m) z) (fun r => (∃ E, mgI r.2 a m (T ++ E)) ∧ fr gvH z r.2) := by
  let Q : Int32 × ow_MS → Prop := fun r => (∃ E, mgI r.2 a m (T ++ E)) ∧ fr gvH z r.2
  have hth := thM_le m
  have mF : ∀ {y : ow_MS}, fr gvH z y → mcI y n A sg c a := fun hf => mcI_fr hn hf (fun g hg => by unfold gvH at hg; omega) hM
  have key : ∀ (k : Nat) (E : List Nat) (y : ow_MS), a - (T ++ E).length ≤ k → mgI y a m (T ++ E) → fr gvH z y → Tt (fun K i => q_X13_follows K i 1 (nI m) 1 0 0 0 0 n 0 0 0 y) Q := by
    intro k
    induction k using Nat.strongRecOn with
    | ind k ih =>
    intro E y hk hI hf
    have pass : ∀ (d x : Nat) (F : List Nat) (x3 : Int32) (y : ow_MS), x + d = c → mgI y a m (T ++ F) → fr gvH z y → (x3 = 0 ∨ x3 = 1 ∧ (T ++ E).length < (T ++ F).length) → (T ++ E).length ≤ (T ++ F).length → Tt (fun K i => q_X13_follows K i 2 (nI m) x3 (nI x) 0 0 0 n 0 0 0 y) Q := by
      intro d
      induction d with
      | zero =>
        intro x F x3 y hx hI hf h3 hle0
        refine u_X13_follows_2 ?_; unfold qm_X13_follows_2
        refine w_rdF (mF hf).1.1.V (w_nzI (by decide) ?_)
        rw [hV, half_V (by omega)]
        refine w_leT (by omega) (by omega) ?_
        rcases h3 with h3 | ⟨h3, h4⟩
        · rw [h3]
          refine u_X13_follows_1 ?_; unfold qm_X13_follows_1
          exact w_ifT rfl (w_okZ (Or.inr rfl) (w_some ⟨⟨F, hI⟩, hf⟩))
        · rw [h3]
          have := mgI_len hI
          exact ih (a - (T ++ F).length) (by omega) F y (Nat.le_refl _) hI hf
      | succ d ihp =>
        intro x F x3 y hx hI hf h3 hle0
        have hMy := mF hf
        obtain ⟨⟨o, ho, eo⟩, ⟨i, hi, ei⟩, ⟨j, hj, ej⟩⟩ := hMy.2.1.2 x (by omega)
        have c7 : ∀ (F : List Nat) (x3 x5 : Int32) (y : ow_MS), mgI y a m (T ++ F) → fr gvH z y → (x3 = 0 ∨ x3 = 1 ∧ (T ++ E).length < (T ++ F).length) → (T ++ E).length ≤ (T ++ F).length → Tt (fun K i => q_X13_follows K i 7 (nI m) x3 (nI x) x5 0 0 n 0 0 0 y) Q := by
          intro F x3 x5 y hI hf h3 hle0
          refine u_X13_follows_7 ?_; unfold qm_X13_follows_7
          rw [nI_1]
          exact ihp (x + 1) F x3 y (by omega) hI hf h3 hle0
        refine u_X13_follows_2 ?_; unfold qm_X13_follows_2
        refine w_rdF hMy.1.1.V (w_nzI (by decide) ?_)
        rw [hV, half_V (by omega)]
        refine w_leF (by omega) (by omega) (w_rdI ml61 rfl (by omega) eo (w_rdI ml77 rfl (by omega) rfl (w_rdI ml80 rfl (by omega) rfl (w_if (fun _ => c7 F x3 _ y hI hf h3 hle0) (fun _ => w_if (fun _ => c7 F x3 _ y hI hf h3 hle0) (fun hne => ?_))))))
        rcases hI.2.2.2.2 o (by omega) with ⟨-, k2⟩ | ⟨hoT, g, hg, eg⟩
        · exact absurd k2 hne
        rw [eg]
        -- the length of what was there when the round began
        have c4 : ∀ (r6 r7 : Nat), (r6 = 75 ∨ r6 = 76) → (r7 = 75 ∨ r7 = 76) → Tt (fun K i => q_X13_follows K i 4 (nI m) x3 (nI x) (nI g) 0 0 n r6 0 r7 y) Q := by
          intro r6 r7 hr6 hr7
          have grow : ∀ b, ((T ++ E).length ≤ (T ++ F).length) → (T ++ E).length < (T ++ (F ++ [b])).length := by
            intro b h9
            rw [← List.append_assoc, List.length_append (as := T ++ F)]
            show _ < _ + 1
            omega
          have hEF : (T ++ E).length ≤ (T ++ F).length ∨ (T ++ F).length < (T ++ E).length := by omega
          have c6 : ∀ (v8 v10 : Int32), ((j ∉ T ++ F ∧ v10 = -1) ∨ (j ∈ T ++ F ∧ ∃ q, q < thM m ∧ v10 = nI q)) → ((i ∉ T ++ F ∧ v8 = -1) ∨ (i ∈ T ++ F ∧ ∃ q, q < thM m ∧ v8 = nI q)) → (T ++ E).length ≤ (T ++ F).length → Tt (fun K i => q_X13_follows K i 6 (nI m) x3 (nI x) (nI g) v8 v10 n r6 r7 0 y) Q := by
            intro v8 v10 h10 h8 hle
            refine u_X13_follows_6 ?_; unfold qm_X13_follows_6
            refine w_if (fun e8 => w_if (fun _ => c7 F x3 _ y hI hf h3 hle0) (fun n10 => ?_)) (fun _ => c7 F x3 _ y hI hf h3 hle0)
            rcases h10 with ⟨-, k2⟩ | ⟨-, q, hq, rfl⟩
            · exact absurd k2 n10
            rcases h8 with ⟨k1, -⟩ | ⟨-, q2, hq2, rfl⟩
            · obtain ⟨t, ht, et⟩ := XMz_tb hMy.2.2 hm1 hm4 hg hq hr7
              have hb : 576 * m + 24 * g + q < 2880 := by omega
              rw [tb_ix]
              refine w_rdI ml62 rfl (by omega) ei (w_rdI (tb_len hr7) rfl hb et (w_cs0 (tp_give ha hI hi k1 ht) (fun y1 ⟨I1, f1⟩ => ?_)))
              rw [List.append_assoc] at I1
              exact c7 (F ++ [i]) 1 _ y1 I1 (fr_tr hf f1) (Or.inr ⟨rfl, grow i hle⟩) (Nat.le_of_lt (grow i hle))
            · exact absurd e8 (rn_neg1 (by omega))
          have c5 : ∀ (v8 v10 : Int32), ((j ∉ T ++ F ∧ v10 = -1) ∨ (j ∈ T ++ F ∧ ∃ q, q < thM m ∧ v10 = nI q)) → ((i ∉ T ++ F ∧ v8 = -1) ∨ (i ∈ T ++ F ∧ ∃ q, q < thM m ∧ v8 = nI q)) → (T ++ E).length ≤ (T ++ F).length → Tt (fun K i => q_X13_follows K i 5 (nI m) x3 (nI x) (nI g) v8 v10 n r6 r7 0 y) Q := by
            intro v8 v10 h10 h8 hle
            refine u_X13_follows_5 ?_; unfold qm_X13_follows_5
            refine w_if (fun _ => c6 v8 v10 h10 h8 hle) (fun n8 => w_if (fun e10 => ?_) (fun _ => c6 v8 v10 h10 h8 hle))
            rcases h8 with ⟨-, k2⟩ | ⟨-, q, hq, rfl⟩
            · exact absurd k2 n8
            rcases h10 with ⟨k1, -⟩ | ⟨-, q2, hq2, rfl⟩
            · obtain ⟨t, ht, et⟩ := XMz_tb hMy.2.2 hm1 hm4 hg hq hr6
              have hb : 576 * m + 24 * g + q < 2880 := by omega
              rw [tb_ix]
              refine w_rdI ml63 rfl (by omega) ej (w_rdI (tb_len hr6) rfl hb et (w_cs0 (tp_give ha hI hj k1 ht) (fun y1 ⟨I1, f1⟩ => ?_)))
              rw [List.append_assoc] at I1
              exact c7 (F ++ [j]) 1 _ y1 I1 (fr_tr hf f1) (Or.inr ⟨rfl, grow j hle⟩) (Nat.le_of_lt (grow j hle))
            · exact absurd e10 (rn_neg1 (by omega))
          have h8 := hI.2.2.2.2 i (by omega)
          have h10 := hI.2.2.2.2 j (by omega)
          rcases hEF with hle | hgt
          · refine u_X13_follows_4 ?_; unfold qm_X13_follows_4
            refine w_rdI ml62 rfl (by omega) ei (w_rdI ml77 rfl (by omega) rfl (w_rdI ml63 rfl (by omega) ej (w_rdI ml77 rfl (by omega) rfl (w_if (fun _ => c5 _ _ h10 h8 hle) (fun n8 => w_if (fun _ => c5 _ _ h10 h8 hle) (fun n10 => ?_))))))
            rcases h8 with ⟨-, k2⟩ | ⟨k1, q, hq, eq⟩
            · exact absurd k2 n8
            obtain ⟨t, ht, et⟩ := XMz_tb hMy.2.2 hm1 hm4 hg hq hr6
            have hb : 576 * m + 24 * g + q < 2880 := by omega
            refine w_rdI (tb_len hr6) (by rw [eq]; exact tb_ix) hb et (w_if (fun _ => c5 _ _ h10 (Or.inr ⟨k1, q, hq, eq⟩) hle) (fun _ => w_okZ (Or.inl rfl) (w_some ⟨⟨F, hI⟩, hf⟩)))
          · exfalso
            omega
        refine w_rdI (pl6 hn) rfl (by omega) rfl (w_if (fun _ => ?_) (fun _ => ?_))
        · refine u_X13_follows_3 ?_; unfold qm_X13_follows_3
          exact w_rdI (pl6 hn) rfl (by omega) rfl (w_if (fun _ => c4 76 75 (Or.inr rfl) (Or.inl rfl)) (fun _ => c4 76 76 (Or.inr rfl) (Or.inr rfl)))
        · refine u_X13_follows_3 ?_; unfold qm_X13_follows_3
          exact w_rdI (pl6 hn) rfl (by omega) rfl (w_if (fun _ => c4 75 75 (Or.inl rfl) (Or.inl rfl)) (fun _ => c4 75 76 (Or.inl rfl) (Or.inr rfl)))
    refine u_X13_follows_1 ?_; unfold qm_X13_follows_1
    exact w_ifF (by decide) (pass c 0 E 0 y (by omega) hI hf (Or.inl rfl) (Nat.le_refl _))
  refine e_X13_follows ?_
  refine u_X13_follows_0 ?_; unfold qm_X13_follows_0
  exact key (a - (T ++ []).length) [] z (Nat.le_refl _) (by rw [List.append_nil]; exact hI) fr_rf
end MAPS
end
section
/-! 99zzzp.maps2 -/
/-! maps has an answer: the count itself -/
section MAPS2
variable {X : (Nat → Nat → Int32) → Prop} {z : ow_MS}
theorem w_qdM {dd r1 : Nat} {x2 : Int32} {z : ow_MS} {Q : Int32 × ow_MS → Prop} (H : Tt (fun K k => q_X13_mapsOf K (qd_X13_mapsOf K dd) k 0 x2 0 0 0 0 0 r1 0 z) Q) : Te (fun K => qd_X13_mapsOf K (dd + 1) r1 x2 z) Q := w_te H
theorem u_X13_mapsOf_6 {dd : Nat} {x2 : Int32} {x3 : Int32} {x4 : Int32} {x5 : Int32} {x6 : Int32} {x7 : Int32} {r1 : Nat} {t0 : Int32} {z : ow_MS} {Q : (Int32 × ow_MS) → Prop} (H : Tt (fun K k => qm_X13_mapsOf_6 K (qd_X13_mapsOf K dd) (q_X13_mapsOf K (qd_X13_mapsOf K dd) k) x2 x3 x4 x5 x6 x7 r1 t0 z) Q) : Tt (fun K k => q_X13_mapsOf K (qd_X13_mapsOf K dd) k 6 x2 x3 x4 x5 x6 x7 r1 t0 z) Q := w_un (fun _ _ => rfl) H
theorem u_X13_mapsOf_0 {dd : Nat} {x2 : Int32} {x3 : Int32} {x4 : Int32} {x5 : Int32} {x6 : Int32} {x7 : Int32} {r1 : Nat} {t0 : Int32} {z : ow_MS} {Q : (Int32 × ow_MS) → Prop} (H : Tt (fun K k => qm_X13_mapsOf_0 K (qd_X13_mapsOf K dd) (q_X13_mapsOf K (qd_X13_mapsOf K dd) k) x2 x3 x4 x5 x6 x7 r1 t0 z) Q) : Tt (fun K k => q_X13_mapsOf K (qd_X13_mapsOf K dd) k 0 x2 x3 x4 x5 x6 x7 r1 t0 z) Q := w_un (fun _ _ => rfl) H
theorem u_X13_mapsOf_4 {dd : Nat} {x2 : Int32} {x3 : Int32} {x4 : Int32} {x5 : Int32} {x6 : Int32} {x7 : Int32} {r1 : Nat} {t0 : Int32} {z : ow_MS} {Q : (Int32 × ow_MS) → Prop} (H : Tt (fun K k => qm_X13_mapsOf_4 K (qd_X13_mapsOf K dd) (q_X13_mapsOf K (qd_X13_mapsOf K dd) k) x2 x3 x4 x5 x6 x7 r1 t0 z) Q) : Tt (fun K k => q_X13_mapsOf K (qd_X13_mapsOf K dd) k 4 x2 x3 x4 x5 x6 x7 r1 t0 z) Q := w_un (fun _ _ => rfl) H
theorem u_X13_mapsOf_5 {dd : Nat} {x2 : Int32} {x3 : Int32} {x4 : Int32} {x5 : Int32} {x6 : Int32} {x7 : Int32} {r1 : Nat} {t0 : Int32} {z : ow_MS} {Q : (Int32 × ow_MS) → Prop} (H : Tt (fun K k => qm_X13_mapsOf_5 K (qd_X13_mapsOf K dd) (q_X13_mapsOf K (qd_X13_mapsOf K dd) k) x2 x3 x4 x5 x6 x7 r1 t0 z) Q) : Tt (fun K k => q_X13_mapsOf K (qd_X13_mapsOf K dd) k 5 x2 x3 x4 x5 x6 x7 r1 t0 z) Q := w_un (fun _ _ => rfl) H
theorem u_X13_mapsOf_1 {dd : Nat} {x2 : Int32} {x3 : Int32} {x4 : Int32} {x5 : Int32} {x6 : Int32} {x7 : Int32} {r1 : Nat} {t0 : Int32} {z : ow_MS} {Q : (Int32 × ow_MS) → Prop} (H : Tt (fun K k => qm_X13_mapsOf_1 K (qd_X13_mapsOf K dd) (q_X13_mapsOf K (qd_X13_mapsOf K dd) k) x2 x3 x4 x5 x6 x7 r1 t0 z) Q) : Tt (fun K k => q_X13_mapsOf K (qd_X13_mapsOf K dd) k 1 x2 x3 x4 x5 x6 x7 r1 t0 z) Q := w_un (fun _ _ => rfl) H
theorem u_X13_mapsOf_3 {dd : Nat} {x2 : Int32} {x3 : Int32} {x4 : Int32} {x5 : Int32} {x6 : Int32} {x7 : Int32} {r1 : Nat} {t0 : Int32} {z : ow_MS} {Q : (Int32 × ow_MS) → Prop} (H : Tt (fun K k => qm_X13_mapsOf_3 K (qd_X13_mapsOf K dd) (q_X13_mapsOf K (qd_X13_mapsOf K dd) k) x2 x3 x4 x5 x6 x7 r1 t0 z) Q) : Tt (fun K k => q_X13_mapsOf K (qd_X13_mapsOf K dd) k 3 x2 x3 x4 x5 x6 x7 r1 t0 z) Q := w_un (fun _ _ => rfl) H
theorem u_X13_mapsOf_2 {dd : Nat} {x2 : Int32} {x3 : Int32} {x4 : Int32} {x5 : Int32} {x6 : Int32} {x7 : Int32} {r1 : Nat} {t0 : Int32} {z : ow_MS} {Q : (Int32 × ow_MS) → Prop} (H : Tt (fun K k => qm_X13_mapsOf_2 K (qd_X13_mapsOf K dd) (q_X13_mapsOf K (qd_X13_mapsOf K dd) k) x2 x3 x4 x5 x6 x7 r1 t0 z) Q) : Tt (fun K k => q_X13_mapsOf K (qd_X13_mapsOf K dd) k 2 x2 x3 x4 x5 x6 x7 r1 t0 z) Q := w_un (fun _ _ => rfl) H
theorem tp_mapsOf {n m c a : Nat} {A : rn_L} {sg : Nat → Bool} (hn : mw_net n) (hm1 : 1 ≤ m) (hm4 : m ≤ 4) (hV : A.flatten.length = 2 * c) (hc : c ≤ 12) (ha : a ≤ 18) : ∀ (k dd : Nat) (T : List Nat) (z : ow_MS), a - T.length ≤ k → k < dd → mgI z a m T → mcI z n A sg c a → Te (fun K => qd_X13_mapsOf K dd n (nI m) z) (fun r => mgI r.2 a m T ∧ fr gvH z r.2) := by
  intro k
  induction k using Nat.strongRecOn with
  | ind k ih =>
  intro dd T z hk hdd hI hM
  obtain ⟨dd, rfl⟩ : ∃ d', dd = d' + 1 := ⟨dd - 1, by omega⟩
  have hth := thM_le m
  have hT := mgI_len hI
  let Q : Int32 × ow_MS → Prop := fun r => mgI r.2 a m T ∧ fr gvH z r.2
  have mF : ∀ {y : ow_MS}, fr gvH z y → mcI y n A sg c a := fun hf => mcI_fr hn hf (fun g hg => by unfold gvH at hg; omega) hM
  have c6 : ∀ (x4 : Int32) (E : List Nat) (y : ow_MS), mgI y a m (T ++ E) → fr gvH z y → Tt (fun K i => q_X13_mapsOf K (qd_X13_mapsOf K dd) i 6 (nI m) (nI T.length) x4 0 0 0 n 0 y) Q := by
    intro x4 E y hI hf
    refine u_X13_mapsOf_6 ?_; unfold qm_X13_mapsOf_6
    exact w_cs0 (tp_takeBack ha hI rfl) (fun y1 ⟨I1, f1⟩ => w_some ⟨I1, fr_tr hf f1⟩)
  refine w_qdM ?_
  refine u_X13_mapsOf_0 ?_; unfold qm_X13_mapsOf_0
  refine w_rdF hI.1 (w_cs1 (tp_follows hn hm1 hm4 hV hc ha hI hM) (fun v y ⟨⟨E, IE⟩, fE⟩ => w_if (fun _ => c6 _ E y IE fE) (fun _ => ?_)))
  have IE : mgI y a m (T ++ E) := IE
  have fE : fr gvH z y := fE
  have hMy := mF fE
  have c4 : ∀ (x6 : Int32) (x5 : Int32), (x5 = -1 ∨ ∃ b, x5 = nI b ∧ b < a ∧ b ∉ T ++ E) → Tt (fun K i => q_X13_mapsOf K (qd_X13_mapsOf K dd) i 4 (nI m) (nI T.length) 0 x5 x6 0 n 0 y) Q := by
    intro x6 x5 h5
    refine u_X13_mapsOf_4 ?_; unfold qm_X13_mapsOf_4
    refine w_if (fun _ => c6 _ E y IE fE) (fun n5 => ?_)
    rcases h5 with h5 | ⟨b, rfl, hb, hbT⟩
    · exact absurd h5 n5
    have hroom := mgI_room IE hb hbT
    have c5 : ∀ (d p : Nat) (x4 : Int32) (y : ow_MS), p + d = thM m → mgI y a m (T ++ E) → fr gvH z y → Tt (fun K i => q_X13_mapsOf K (qd_X13_mapsOf K dd) i 5 (nI m) (nI T.length) x4 (nI b) (nI (T ++ E).length) (nI p) n 0 y) Q := by
      intro d
      induction d with
      | zero =>
        intro p x4 y hp I1 f1
        refine u_X13_mapsOf_5 ?_; unfold qm_X13_mapsOf_5
        exact w_rdI ml73 rfl (by omega) (XMz_th (mF f1).2.2 hm4) (w_leT (by omega) (by omega) (c6 _ E y I1 f1))
      | succ d ih5 =>
        intro p x4 y hp I1 f1
        refine u_X13_mapsOf_5 ?_; unfold qm_X13_mapsOf_5
        rw [nI_1]
        refine w_rdI ml73 rfl (by omega) (XMz_th (mF f1).2.2 hm4) (w_leF (by omega) (by omega) (w_cs0 (tp_give ha I1 hb hbT (by omega)) (fun y2 ⟨I2, f2⟩ => w_cs1 (ih (a - ((T ++ E) ++ [b]).length) ?_ dd _ y2 (Nat.le_refl _) ?_ I2 (mF (fr_tr f1 f2))) (fun v y3 ⟨I3, f3⟩ => w_cs0 (tp_takeBack ha I3 rfl) (fun y4 ⟨I4, f4⟩ => ih5 (p + 1) _ y4 (by omega) I4 (fr_tr f1 (fr_tr f2 (fr_tr f3 f4))))))))
        · rw [List.length_append]
          show a - ((T ++ E).length + 1) < k
          rw [List.length_append] at hroom ⊢
          omega
        · rw [List.length_append]
          show a - ((T ++ E).length + 1) < dd
          rw [List.length_append] at hroom ⊢
          omega
    exact w_rdF IE.1 (c5 (thM m) 0 0 y (by omega) IE fE)
  have c1 : ∀ (d x : Nat) (x5 : Int32), x + d = c → (x5 = -1 ∨ ∃ b, x5 = nI b ∧ b < a ∧ b ∉ T ++ E) → Tt (fun K i => q_X13_mapsOf K (qd_X13_mapsOf K dd) i 1 (nI m) (nI T.length) 0 x5 (nI x) 0 n 0 y) Q := by
    intro d
    induction d with
    | zero =>
      intro x x5 hx h5
      refine u_X13_mapsOf_1 ?_; unfold qm_X13_mapsOf_1
      refine w_rdF hMy.1.1.V (w_nzI (by decide) ?_)
      rw [hV, half_V (by omega)]
      exact w_leT (by omega) (by omega) (c4 _ _ h5)
    | succ d ih1 =>
      intro x x5 hx h5
      obtain ⟨⟨o, ho, eo⟩, ⟨i, hi, ei⟩, ⟨j, hj, ej⟩⟩ := hMy.2.1.2 x (by omega)
      have c3 : ∀ (x5 : Int32), (x5 = -1 ∨ ∃ b, x5 = nI b ∧ b < a ∧ b ∉ T ++ E) → Tt (fun K i => q_X13_mapsOf K (qd_X13_mapsOf K dd) i 3 (nI m) (nI T.length) 0 x5 (nI x) 0 n 0 y) Q := by
        intro x5 h5
        refine u_X13_mapsOf_3 ?_; unfold qm_X13_mapsOf_3
        rw [nI_1]
        exact ih1 (x + 1) x5 (by omega) h5
      have c2 : ∀ (x5 t0 : Int32), (t0 = -1 ∨ ∃ b, t0 = nI b ∧ b < a ∧ b ∉ T ++ E) → Tt (fun K i => q_X13_mapsOf K (qd_X13_mapsOf K dd) i 2 (nI m) (nI T.length) 0 x5 (nI x) 0 n t0 y) Q := by
        intro x5 t0 h5
        refine u_X13_mapsOf_2 ?_; unfold qm_X13_mapsOf_2
        exact c3 t0 h5
      have un : ∀ b, b < a → y.2.1 77 b = -1 → b ∉ T ++ E := fun b hb e9 h9 => by
        rcases IE.2.2.2.2 b (by omega) with ⟨k1, -⟩ | ⟨-, q, hq, k4⟩
        · exact k1 h9
        · rw [k4] at e9
          exact absurd e9 (rn_neg1 (by omega))
      refine u_X13_mapsOf_1 ?_; unfold qm_X13_mapsOf_1
      refine w_rdF hMy.1.1.V (w_nzI (by decide) ?_)
      rw [hV, half_V (by omega)]
      exact w_leF (by omega) (by omega) (w_if (fun _ => w_rdI ml80 rfl (by omega) rfl (w_if (fun _ => c3 _ h5) (fun _ => w_rdI ml61 rfl (by omega) eo (w_rdI ml77 rfl (by omega) rfl (w_if (fun e9 => w_rdI ml61 rfl (by omega) eo (c2 _ _ (Or.inr ⟨o, rfl, ho, un o ho e9⟩))) (fun _ => w_rdI ml62 rfl (by omega) ei (w_rdI ml77 rfl (by omega) rfl (w_if (fun e9 => w_rdI ml62 rfl (by omega) ei (c2 _ _ (Or.inr ⟨i, rfl, hi, un i hi e9⟩))) (fun _ => w_rdI ml63 rfl (by omega) ej (w_rdI ml77 rfl (by omega) rfl (w_if (fun e9 => w_rdI ml63 rfl (by omega) ej (c2 _ _ (Or.inr ⟨j, rfl, hj, un j hj e9⟩))) (fun _ => c2 _ _ (Or.inl rfl))))))))))))) (fun _ => c4 _ _ h5))
  exact c1 c 0 (-1) (by omega) (Or.inl rfl)
theorem u_X13_maps_1 {x1 : Int32} {x2 : Int32} {x3 : Int32} {x4 : Int32} {x5 : Int32} {x6 : Int32} {t0 : Int32} {t1 : Int32} {z : ow_MS} {Q : (Int32 × ow_MS) → Prop} (H : Tt (fun K k => qm_X13_maps_1 K (q_X13_maps K k) x1 x2 x3 x4 x5 x6 t0 t1 z) Q) : Tt (fun K k => q_X13_maps K k 1 x1 x2 x3 x4 x5 x6 t0 t1 z) Q := w_un (fun _ _ => rfl) H
theorem u_X13_maps_2 {x1 : Int32} {x2 : Int32} {x3 : Int32} {x4 : Int32} {x5 : Int32} {x6 : Int32} {t0 : Int32} {t1 : Int32} {z : ow_MS} {Q : (Int32 × ow_MS) → Prop} (H : Tt (fun K k => qm_X13_maps_2 K (q_X13_maps K k) x1 x2 x3 x4 x5 x6 t0 t1 z) Q) : Tt (fun K k => q_X13_maps K k 2 x1 x2 x3 x4 x5 x6 t0 t1 z) Q := w_un (fun _ _ => rfl) H
theorem e_X13_maps {x1 : Int32} {x2 : Int32} {z : ow_MS} {Q : (Int32 × ow_MS) → Prop} (H : Tt (fun K k => q_X13_maps K k 0 x1 x2 0 0 0 0 0 0 z) Q) : Te (fun K => qe_X13_maps K x1 x2 z) Q := w_te H
theorem u_X13_maps_0 {x1 : Int32} {x2 : Int32} {x3 : Int32} {x4 : Int32} {x5 : Int32} {x6 : Int32} {t0 : Int32} {t1 : Int32} {z : ow_MS} {Q : (Int32 × ow_MS) → Prop} (H : Tt (fun K k => qm_X13_maps_0 K (q_X13_maps K k) x1 x2 x3 x4 x5 x6 t0 t1 z) Q) : Tt (fun K k => q_X13_maps K k 0 x1 x2 x3 x4 x5 x6 t0 t1 z) Q := w_un (fun _ _ => rfl) H
theorem u_X13_maps_3 {x1 : Int32} {x2 : Int32} {x3 : Int32} {x4 : Int32} {x5 : Int32} {x6 : Int32} {t0 : Int32} {t1 : Int32} {z : ow_MS} {Q : (Int32 × ow_MS) → Prop} (H : Tt (fun K k => qm_X13_maps_3 K (q_X13_maps K k) x1 x2 x3 x4 x5 x6 t0 t1 z) Q) : Tt (fun K k => q_X13_maps K k 3 x1 x2 x3 x4 x5 x6 t0 t1 z) Q := w_un (fun _ _ => rfl) H
theorem u_X13_maps_7 {x1 : Int32} {x2 : Int32} {x3 : Int32} {x4 : Int32} {x5 : Int32} {x6 : Int32} {t0 : Int32} {t1 : Int32} {z : ow_MS} {Q : (Int32 × ow_MS) → Prop} (H : Tt (fun K k => qm_X13_maps_7 K (q_X13_maps K k) x1 x2 x3 x4 x5 x6 t0 t1 z) Q) : Tt (fun K k => q_X13_maps K k 7 x1 x2 x3 x4 x5 x6 t0 t1 z) Q := w_un (fun _ _ => rfl) H
theorem u_X13_maps_5 {x1 : Int32} {x2 : Int32} {x3 : Int32} {x4 : Int32} {x5 : Int32} {x6 : Int32} {t0 : Int32} {t1 : Int32} {z : ow_MS} {Q : (Int32 × ow_MS) → Prop} (H : Tt (fun K k => qm_X13_maps_5 K (q_X13_maps K k) x1 x2 x3 x4 x5 x6 t0 t1 z) Q) : Tt (fun K k => q_X13_maps K k 5 x1 x2 x3 x4 x5 x6 t0 t1 z) Q := w_un (fun _ _ => rfl) H
theorem u_X13_maps_6 {x1 : Int32} {x2 : Int32} {x3 : Int32} {x4 : Int32} {x5 : Int32} {x6 : Int32} {t0 : Int32} {t1 : Int32} {z : ow_MS} {Q : (Int32 × ow_MS) → Prop} (H : Tt (fun K k => qm_X13_maps_6 K (q_X13_maps K k) x1 x2 x3 x4 x5 x6 t0 t1 z) Q) : Tt (fun K k => q_X13_maps K k 6 x1 x2 x3 x4 x5 x6 t0 t1 z) Q := w_un (fun _ _ => rfl) H
theorem u_X13_maps_4 {x1 : Int32} {x2 : Int32} {x3 : Int32} {x4 : Int32} {x5 : Int32} {x6 : Int32} {t0 : Int32} {t1 : Int32} {z : ow_MS} {Q : (Int32 × ow_MS) → Prop} (H : Tt (fun K k => qm_X13_maps_4 K (q_X13_maps K k) x1 x2 x3 x4 x5 x6 t0 t1 z) Q) : Tt (fun K k => q_X13_maps K k 4 x1 x2 x3 x4 x5 x6 t0 t1 z) Q := w_un (fun _ _ => rfl) H
theorem tp_maps {d k : Int32} (hX : ∀ W, X W → XM W) (h : gI X z) : Te (fun K => qe_X13_maps K d k z) (fun r => gI X r.2) := by
  have h1 := gI_1 (c := 0) h
  have c1 : ∀ {x1 x2 : Int32} {y : ow_MS}, gI X y → Tt (fun K i => q_X13_maps K i 1 x1 x2 0 0 0 0 0 0 y) (fun r => gI X r.2) := by
    intro x1 x2 y hy
    refine u_X13_maps_1 ?_; unfold qm_X13_maps_1
    exact w_fail hy
  have c2 : ∀ {x1 x2 : Int32} {y : ow_MS}, gI X y → Tt (fun K i => q_X13_maps K i 2 x1 x2 0 0 0 0 0 0 y) (fun r => gI X r.2) := by
    intro x1 x2 y hy
    refine u_X13_maps_2 ?_; unfold qm_X13_maps_2
    exact w_fail hy
  refine e_X13_maps ?_
  refine u_X13_maps_0 ?_; unfold qm_X13_maps_0
  refine w_wrF (w_has h1.2.1 (w_ifT rfl (w_fail h1)) (fun e A sg he hx hv hne => w_ifF (by decide) (w_if (fun _ => c1 h1) (fun h0 => w_if (fun h4 => ?_) (fun _ => c1 h1)))))
  subst hx
  obtain ⟨m, hm1, hm4, rfl⟩ : ∃ m, 1 ≤ m ∧ m ≤ 4 ∧ k = nI m := by
    obtain ⟨a, ha, rfl⟩ := nI_of (x := k) (fun h9 => h0 (by
      rw [Int32.lt_iff_toInt_lt] at h9 ⊢
      exact Int.lt_trans h9 (by decide)))
    refine ⟨a, ?_, (nI_leI (b := 4) ha (by omega)).mp h4, rfl⟩
    rcases Nat.eq_zero_or_pos a with h9 | h9
    · exact absurd (show nI a < 1 by rw [h9]; decide) h0
    · exact h9
  refine w_cs0 (to_open pn1 he hv) (fun z2 ⟨o2, f2⟩ => ?_)
  have g2 : gI X z2 := gI_net pn1 f2 (fun g hg => by omega) h1
  have hl := o2.len
  have hC := o2.2.2.2
  refine w_rdF o2.1.V (w_lt (a := 14) (by omega) (by omega) (fun _ => c2 g2) (fun h14 => w_rdF (lk_C o2.1) (w_le (b := 4) (by omega) (by omega) (fun _ => ?_) (fun _ => c2 g2))))
  obtain ⟨c, hok, hc⟩ := o2.2.2.1
  have hV := okF_len hok
  refine w_cs0 (tn_split pn1 (by omega) (by omega) (wkF_ok o2.wk) o2.1) (fun z3 ⟨f3, P, p1, p2, _, _⟩ => ?_)
  have o3 : oNet z3 1000 A sg := oNet_fr f3 (fun g hg => by unfold frP at hg; omega) o2
  have g3 : gI X z3 := gI_net pn1 f3 (fun g hg => by unfold frP at hg; omega) g2
  refine w_cs0 (tp_arcs pn1 o3 hok) (fun z4 ⟨⟨a, ha, hI4⟩, f4⟩ => ?_)
  have o4 : oNet z4 1000 A sg := oNet_fr f4 (fun g hg => by unfold arcH at hg; omega) o3
  have g4 : gI X z4 := gI_fr f4 (fun g hg => by unfold arcH at hg; unfold per; omega) g3
  have hMz : mcI z4 1000 A sg c a := ⟨o4, hI4, hX _ g4.2.2.2.2.2.2⟩
  have hP4 : z4.1 1013 = nI P := by rw [(f4 1013 (by unfold arcH; omega)).1]; exact p1
  let F : Nat → Prop := fun g => 77 ≤ g ∧ g ≤ 80
  have mF : ∀ {y : ow_MS}, fr F z4 y → mcI y 1000 A sg c a := fun hf => mcI_fr pn1 hf (fun g hg => hg) hMz
  have gF : ∀ {y : ow_MS}, fr F z4 y → gI X y := fun hf => gI_fr hf (fun g hg => by have hg : 77 ≤ g ∧ g ≤ 80 := hg; unfold per; omega) g4
  have c3 : ∀ (d p : Nat) (x3 : Int32) (y : ow_MS), p + d = P → fr F z4 y → Tt (fun K i => q_X13_maps K i 3 (nI e) (nI m) x3 (nI p) 0 0 0 0 y) (fun r => gI X r.2) := by
    intro d
    induction d with
    | zero =>
      intro p x3 y hp hf
      refine u_X13_maps_3 ?_; unfold qm_X13_maps_3
      exact w_rdF (x := nI P) (by rw [(hf (1000 + 13) (by show ¬ (77 ≤ 1013 ∧ 1013 ≤ 80); omega)).1]; exact hP4) (w_leT (by omega) (by omega) (w_some (gF hf)))
    | succ d ih =>
      intro p x3 y hp hf
      have c7 : ∀ (x5 x6 t0 : Int32) (y : ow_MS), fr F z4 y → Tt (fun K i => q_X13_maps K i 7 (nI e) (nI m) x3 (nI p) x5 x6 t0 x3 y) (fun r => gI X r.2) := by
        intro x5 x6 t0 y hf
        refine u_X13_maps_7 ?_; unfold qm_X13_maps_7
        rw [nI_1]
        exact ih (p + 1) _ y (by omega) hf
      have c5 : ∀ (d v : Nat) (x5 : Int32) (y : ow_MS), v + d = A.flatten.length → fr F z4 y → (∀ b, b < 40 → y.2.1 77 b = -1) → Tt (fun K i => q_X13_maps K i 5 (nI e) (nI m) x3 (nI p) x5 (nI v) 0 0 y) (fun r => gI X r.2) := by
        intro d
        induction d with
        | zero =>
          intro v x5 y hv hf h77
          refine u_X13_maps_5 ?_; unfold qm_X13_maps_5
          have hf2 : fr F z4 (usF y 79 0) := fr_F2 hf (by show 77 ≤ 79 ∧ 79 ≤ 80; omega)
          refine w_rdF (mF hf).1.1.V (w_leT (by omega) (by omega) (w_wrF (w_if (fun _ => w_rdI ml73 rfl (by omega) rfl (c7 _ _ _ _ hf2)) (fun _ => ?_))))
          have hI0 : mgI (usF y 79 0) a m [] := ⟨po_usF_at, List.nodup_nil, fun b hb => absurd hb List.not_mem_nil, fun i b hb => (by simp at hb), fun b hb => Or.inl ⟨List.not_mem_nil, h77 b hb⟩⟩
          exact w_cs1 (tp_mapsOf pn1 hm1 hm4 hV (by omega) (by omega) (a - ([] : List Nat).length) 42 [] _ (Nat.le_refl _) (by show a - 0 < 42; omega) hI0 (mF hf2)) (fun v1 y1 ⟨_, f5⟩ => c7 _ _ _ y1 (fr_tr hf2 (fr_mono (fun g hg => by unfold gvH at hg; show 77 ≤ g ∧ g ≤ 80; omega) f5)))
        | succ d ih5 =>
          intro v x5 y hv hf h77
          have hvl : v < A.flatten.length := by omega
          have hO := (mF hf).1
          have hcx := (hO.cx hvl).1
          have hcc := (rn_c_in A v hvl).1
          have c6 : ∀ (t0 : Int32), Tt (fun K i => q_X13_maps K i 6 (nI e) (nI m) x3 (nI p) x5 (nI v) t0 0 y) (fun r => gI X r.2) := by
            intro t0
            refine u_X13_maps_6 ?_; unfold qm_X13_maps_6
            rw [nI_1]
            exact w_rdI (pl4 pn1) rfl (by omega) (lk_cu hO.1 hvl).1 (w_wrZ ml80 rfl (by omega) (ih5 (v + 1) _ _ (by omega) (fr_I2 hf (by show 77 ≤ 80 ∧ 80 ≤ 80; omega)) (fun b hb => rd_ot (by omega) (h77 b hb))))
          refine u_X13_maps_5 ?_; unfold qm_X13_maps_5
          exact w_rdF hO.1.V (w_leF (by omega) hvl (w_rdI (pl8 pn1) rfl (by omega) (lk_c hO.1 hvl) (w_rdI (pl12 pn1) rfl (by omega) rfl (w_if (fun _ => c6 _) (fun _ => c6 _)))))
      have c4 : ∀ (d b : Nat) (y : ow_MS), b + d = 40 → fr F z4 y → (∀ t, t < b → y.2.1 77 t = -1) → Tt (fun K i => q_X13_maps K i 4 (nI e) (nI m) x3 (nI p) 0 (nI b) 0 0 y) (fun r => gI X r.2) := by
        intro d
        induction d with
        | zero =>
          intro b y hb hf h77
          refine u_X13_maps_4 ?_; unfold qm_X13_maps_4
          exact w_leT (a := 40) (by omega) (by omega) (c5 A.flatten.length 0 0 y (by omega) hf (fun t ht => h77 t (by omega)))
        | succ d ih4 =>
          intro b y hb hf h77
          refine u_X13_maps_4 ?_; unfold qm_X13_maps_4
          rw [nI_1]
          refine w_leF (a := 40) (by omega) (by omega) (w_wrI ml77 rfl (by omega) (ih4 (b + 1) _ (by omega) (fr_I2 hf (by show 77 ≤ 77 ∧ 77 ≤ 80; omega)) (fun t ht => ?_)))
          by_cases htb : t = b
          · rw [htb, po_usI_at]
          · exact rd_ne htb (h77 t (by omega))
      refine u_X13_maps_3 ?_; unfold qm_X13_maps_3
      exact w_rdF (x := nI P) (by rw [(hf (1000 + 13) (by show ¬ (77 ≤ 1013 ∧ 1013 ≤ 80); omega)).1]; exact hP4) (w_leF (by omega) (by omega) (c4 40 0 y (by omega) hf (fun t ht => absurd ht (by omega))))
  exact c3 P 0 1 z4 (by omega) fr_rf
end MAPS2
end
section
/-! 99zzzq.euler -/
/-! a part with c crossings has at most c + 2 faces -/
theorem itf_in {f : Nat → Nat} {D : Nat → Prop} (hc : ∀ s, D s → D (f s)) {a : Nat} (ha : D a) : ∀ k, D (itf f k a)
  | 0 => ha
  | k + 1 => hc _ (itf_in hc ha k)
theorem itf_sub {f : Nat → Nat} {D : Nat → Prop} (hc : ∀ s, D s → D (f s)) (hi : ∀ s t, D s → D t → f s = f t → s = t) {a : Nat} (ha : D a) : ∀ (i j : Nat), itf f i a = itf f (i + j) a → itf f j a = a
  | 0, j, e => by
    rw [Nat.zero_add] at e
    exact e.symm
  | i + 1, j, e => by
    rw [show i + 1 + j = (i + j) + 1 by omega] at e
    exact itf_sub hc hi ha i j (hi _ _ (itf_in hc ha _) (itf_in hc ha _) e)
/-- a map that is one to one comes back -/
theorem itf_back {f : Nat → Nat} {D : Nat → Prop} {N : Nat} (hN : ∀ s, D s → s < N) (hc : ∀ s, D s → D (f s)) (hi : ∀ s t, D s → D t → f s = f t → s = t) {a : Nat} (ha : D a) : ∃ k, itf f (k + 1) a = a := by
  have key : ¬ ∀ i j, i < N + 1 → j < N + 1 → itf f i a = itf f j a → i = j := fun h => by
    have h1 : ((List.range (N + 1)).map (fun i => itf f i a)).Nodup := nodup_map List.nodup_range (fun i j hi hj e => h i j (List.mem_range.mp hi) (List.mem_range.mp hj) e)
    have := nodup_le _ (List.range N) h1 (fun x hx => by
      obtain ⟨i, -, e⟩ := List.mem_map.mp hx
      rw [← e]
      exact List.mem_range.mpr (hN _ (itf_in hc ha i)))
    rw [List.length_map, List.length_range, List.length_range] at this
    omega
  have h2 : ∃ i j, i < j ∧ itf f i a = itf f j a := Classical.byContradiction (fun h9 => key (fun i j _ _ e => by
    rcases Nat.lt_trichotomy i j with h8 | h8 | h8
    · exact absurd ⟨i, j, h8, e⟩ h9
    · exact h8
    · exact absurd ⟨j, i, h8, e.symm⟩ h9))
  obtain ⟨i, j, hij, e⟩ := h2
  refine ⟨j - i - 1, ?_⟩
  rw [show j - i - 1 + 1 = j - i by omega]
  exact itf_sub hc hi ha i (j - i) (by rw [show i + (j - i) = j by omega]; exact e)
/-- two ends in different rings are exchanged: what the new map keeps the old one keeps -/
theorem untw0 {D : Nat → Prop} {N a b : Nat} {p q : Nat → Nat} {L C : Nat → Nat} (hN : ∀ s, D s → s < N) (hc : ∀ s, D s → D (p s)) (hi : ∀ s t, D s → D t → p s = p t → s = t) (ha : D a) (h1 : ∀ s, s ≠ a → s ≠ b → q s = p s) (hC : ∀ s, D s → C (p s) = C s) (hne : C a ≠ C b) (hL : ∀ s, D s → L (q s) = L s) : L (p a) = L a := by
  have hCi : ∀ k, C (itf p k a) = C a := by
    intro k
    induction k with
    | zero => rfl
    | succ k ih => exact (hC _ (itf_in hc ha k)).trans ih
  have key : ∀ i, L a = L (p a) ∨ L (itf p (i + 1) a) = L (p a) := by
    intro i
    induction i with
    | zero => exact Or.inr rfl
    | succ i ih =>
      rcases ih with h9 | h9
      · exact Or.inl h9
      · by_cases h8 : itf p (i + 1) a = a
        · rw [h8] at h9
          exact Or.inl h9
        · refine Or.inr ?_
          have h7 : itf p (i + 1) a ≠ b := fun e => hne (by rw [← e]; exact (hCi (i + 1)).symm)
          have h6 := hL _ (itf_in hc ha (i + 1))
          rw [h1 _ h8 h7] at h6
          show L (p (itf p (i + 1) a)) = _
          rw [h6, h9]
  obtain ⟨k, hk⟩ := itf_back hN hc hi ha
  rcases key k with h9 | h9
  · exact h9.symm
  · rw [hk] at h9
    exact h9.symm
theorem untw {D : Nat → Prop} {N a b : Nat} {p q : Nat → Nat} {L C : Nat → Nat} (hN : ∀ s, D s → s < N) (hc : ∀ s, D s → D (p s)) (hi : ∀ s t, D s → D t → p s = p t → s = t) (ha : D a) (hb : D b) (h1 : ∀ s, s ≠ a → s ≠ b → q s = p s) (h2 : q a = p b) (h3 : q b = p a) (hC : ∀ s, D s → C (p s) = C s) (hne : C a ≠ C b) (hL : ∀ s, D s → L (q s) = L s) : L a = L b ∧ ∀ s, D s → L (p s) = L s := by
  have ka := untw0 hN hc hi ha h1 hC hne hL
  have kb := untw0 hN hc hi hb (fun s h8 h9 => h1 s h9 h8) hC (fun e => hne e.symm) hL
  have e1 : L (p a) = L b := by rw [← h3]; exact hL b hb
  refine ⟨ka.symm.trans e1, fun s hs => ?_⟩
  by_cases h8 : s = a
  · rw [h8]; exact ka
  · by_cases h9 : s = b
    · rw [h9]; exact kb
    · rw [← h1 s h8 h9]; exact hL s hs
/-! trees of gaps -/
def cls (A : rn_L) : List Nat → Nat → Nat
  | [] => fun x => x
  | g :: T => fun x => if cls A T x = cls A T (crs A g) then cls A T (crs A (rn_nx A g)) else cls A T x
theorem cls_e {A : rn_L} {T : List Nat} {g x y : Nat} (h : cls A T x = cls A T y) : cls A (g :: T) x = cls A (g :: T) y := by
  show (if cls A T x = cls A T (crs A g) then _ else cls A T x) = if cls A T y = cls A T (crs A g) then _ else cls A T y
  rw [h]
theorem cls_m {A : rn_L} {T : List Nat} {g : Nat} : cls A (g :: T) (crs A g) = cls A (g :: T) (crs A (rn_nx A g)) := by
  show (if cls A T (crs A g) = cls A T (crs A g) then cls A T (crs A (rn_nx A g)) else _) = if cls A T (crs A (rn_nx A g)) = cls A T (crs A g) then cls A T (crs A (rn_nx A g)) else cls A T (crs A (rn_nx A g))
  rw [if_pos rfl]
  split <;> rfl
theorem cls_in {A : rn_L} {g : Nat} : ∀ {T : List Nat}, g ∈ T → cls A T (crs A g) = cls A T (crs A (rn_nx A g))
  | [], h => by cases h
  | t :: T, h => by
    rcases List.mem_cons.mp h with h9 | h9
    · rw [h9]; exact cls_m
    · exact cls_e (cls_in h9)
theorem cls_k {A : rn_L} {Y : List Nat} : ∀ (T : List Nat) (k : Nat), (∃ R : List Nat, R.length ≤ k ∧ ∀ x, x ∈ Y → cls A T x ∈ R) → ∃ R : List Nat, R.length ≤ k + T.length ∧ ∀ x, x ∈ Y → x ∈ R
  | [], k, h => h
  | g :: T, k, ⟨R, h1, h2⟩ => by
    obtain ⟨R2, h3, h4⟩ := cls_k T (k + 1) ⟨cls A T (crs A g) :: R, by rw [List.length_cons]; omega, fun x hx => by
      have := h2 x hx
      by_cases h9 : cls A T x = cls A T (crs A g)
      · rw [h9]; exact List.mem_cons_self
      · have this : (if cls A T x = cls A T (crs A g) then cls A T (crs A (rn_nx A g)) else cls A T x) ∈ R := this
        rw [if_neg h9] at this
        exact List.mem_cons_of_mem _ this⟩
    exact ⟨R2, by rw [List.length_cons]; omega, h4⟩
def acy (A : rn_L) : List Nat → Prop
  | [] => True
  | g :: T => g ∉ T ∧ cls A T (crs A g) ≠ cls A T (crs A (rn_nx A g)) ∧ acy A T
def krT (A : rn_L) : List Nat → List Nat
  | [] => []
  | g :: G => if cls A (krT A G) (crs A g) = cls A (krT A G) (crs A (rn_nx A g)) then krT A G else g :: krT A G
theorem krT_in {A : rn_L} {g : Nat} : ∀ {G : List Nat}, g ∈ krT A G → g ∈ G
  | [], h => by cases h
  | t :: G, h => by
    unfold krT at h
    by_cases h9 : cls A (krT A G) (crs A t) = cls A (krT A G) (crs A (rn_nx A t))
    · rw [if_pos h9] at h
      exact List.mem_cons_of_mem _ (krT_in h)
    · rw [if_neg h9] at h
      rcases List.mem_cons.mp h with h8 | h8
      · rw [h8]; exact List.mem_cons_self
      · exact List.mem_cons_of_mem _ (krT_in h8)
theorem krT_acy {A : rn_L} : ∀ {G : List Nat}, G.Nodup → acy A (krT A G) ∧ (krT A G).Nodup
  | [], _ => ⟨trivial, List.nodup_nil⟩
  | t :: G, h => by
    obtain ⟨h1, h2⟩ := List.nodup_cons.mp h
    have ih := krT_acy (A := A) h2
    have hn : t ∉ krT A G := fun h9 => h1 (krT_in h9)
    unfold krT
    by_cases h9 : cls A (krT A G) (crs A t) = cls A (krT A G) (crs A (rn_nx A t))
    · rw [if_pos h9]; exact ih
    · rw [if_neg h9]
      exact ⟨⟨hn, h9, ih.1⟩, List.nodup_cons.mpr ⟨hn, ih.2⟩⟩
theorem krT_all {A : rn_L} {g : Nat} : ∀ {G : List Nat}, g ∈ G → cls A (krT A G) (crs A g) = cls A (krT A G) (crs A (rn_nx A g))
  | [], h => by cases h
  | t :: G, h => by
    unfold krT
    by_cases h9 : cls A (krT A G) (crs A t) = cls A (krT A G) (crs A (rn_nx A t))
    · rw [if_pos h9]
      rcases List.mem_cons.mp h with h8 | h8
      · rw [h8]; exact h9
      · exact krT_all h8
    · rw [if_neg h9]
      rcases List.mem_cons.mp h with h8 | h8
      · rw [h8]; exact cls_m
      · exact cls_e (krT_all h8)
/-! sides -/
def rv2 (s : Nat) : Nat := if s % 2 = 0 then s + 1 else s - 1
theorem rv2_rv2 (s : Nat) : rv2 (rv2 s) = s := by
  unfold rv2
  split <;> split <;> omega
theorem rv2_h (s : Nat) : rv2 s / 2 = s / 2 := by
  unfold rv2
  split <;> omega
theorem hdv_rv2 {A : rn_L} {s : Nat} : hdv A (rv2 s) = tlv A s := by
  unfold hdv tlv
  rw [rv2_h]
  unfold rv2
  by_cases h : s % 2 = 0
  · rw [if_pos h, if_pos h, if_neg (by omega)]
  · rw [if_neg h, if_neg h, if_pos (by omega)]
def piT (A : rn_L) (sg : Nat → Bool) (T : List Nat) (s : Nat) : Nat := phi A sg (if s / 2 ∈ T then s else rv2 s)
/-- a set of visits that is closed -/
def cloS (A : rn_L) (S : Nat → Prop) : Prop := (∀ v, S v → v < A.flatten.length) ∧ (∀ v, S v → S (rn_nx A v)) ∧ (∀ v, S v → S (rn_pv A v)) ∧ ∀ v, S v → S (mtf A v)
section EUL
variable {A : rn_L} {sg : Nat → Bool} {S : Nat → Prop}
theorem clo_hd (hS : cloS A S) {s : Nat} (h : S (s / 2)) : S (hdv A s) := by
  unfold hdv
  split
  · exact hS.2.1 _ h
  · exact h
theorem clo_phi (hS : cloS A S) {s : Nat} (h : S (s / 2)) : S (phi A sg s / 2) := by
  have h1 := hS.2.2.2 _ (clo_hd hS h)
  unfold phi
  split
  · rw [show 2 * mtf A (hdv A s) / 2 = mtf A (hdv A s) by omega]; exact h1
  · rw [show (2 * rn_pv A (mtf A (hdv A s)) + 1) / 2 = rn_pv A (mtf A (hdv A s)) by omega]; exact hS.2.2.1 _ h1
theorem clo_pi (hS : cloS A S) {T : List Nat} {s : Nat} (h : S (s / 2)) : S (piT A sg T s / 2) := by
  unfold piT
  split
  · exact clo_phi hS h
  · exact clo_phi hS (by rw [rv2_h]; exact h)
theorem clo_lt (hS : cloS A S) {s : Nat} (h : S (s / 2)) : s < 2 * A.flatten.length := by
  have := hS.1 _ h
  omega
theorem piT_inj (hd : rn_ok A.flatten) (hS : cloS A S) {T : List Nat} {s t : Nat} (hs : S (s / 2)) (ht : S (t / 2)) (e : piT A sg T s = piT A sg T t) : s = t := by
  unfold piT at e
  have key := phi_inj (sg := sg) hd (s := if s / 2 ∈ T then s else rv2 s) (t := if t / 2 ∈ T then t else rv2 t) (by split; exact clo_lt hS hs; exact clo_lt hS (by rw [rv2_h]; exact hs)) (by split; exact clo_lt hS ht; exact clo_lt hS (by rw [rv2_h]; exact ht)) e
  by_cases h1 : s / 2 ∈ T
  · rw [if_pos h1] at key
    by_cases h2 : t / 2 ∈ T
    · rw [if_pos h2] at key; exact key
    · rw [if_neg h2] at key
      rw [key, rv2_h] at h1
      exact absurd h1 h2
  · rw [if_neg h1] at key
    by_cases h2 : t / 2 ∈ T
    · rw [if_pos h2] at key
      rw [← key, rv2_h] at h2
      exact absurd h2 h1
    · rw [if_neg h2] at key
      have := congrArg rv2 key
      rw [rv2_rv2, rv2_rv2] at this
      exact this
/-- the tree's map keeps the class of a side's crossing -/
theorem piT_cls (hd : rn_ok A.flatten) (hS : cloS A S) {T : List Nat} {s : Nat} (hs : S (s / 2)) : cls A T (crs A (tlv A (piT A sg T s))) = cls A T (crs A (tlv A s)) := by
  unfold piT
  by_cases h : s / 2 ∈ T
  · rw [if_pos h, phi_tl hd (clo_lt hS hs), crs_mtf hd (hdv_lt (clo_lt hS hs))]
    have := cls_in (A := A) h
    unfold hdv tlv
    by_cases h2 : s % 2 = 0
    · rw [if_pos h2, if_pos h2]; exact this.symm
    · rw [if_neg h2, if_neg h2]; exact this
  · have hs2 : S (rv2 s / 2) := by rw [rv2_h]; exact hs
    rw [if_neg h, phi_tl hd (clo_lt hS hs2), crs_mtf hd (hdv_lt (clo_lt hS hs2)), hdv_rv2]
theorem tree_L (hd : rn_ok A.flatten) (hS : cloS A S) {L : Nat → Nat} : ∀ (T : List Nat), acy A T → (∀ g, g ∈ T → S g) → (∀ s, S (s / 2) → L (piT A sg T s) = L s) → (∀ g, g ∈ T → L (2 * g) = L (2 * g + 1)) ∧ ∀ s, S (s / 2) → L (piT A sg [] s) = L s
  | [], _, _, h => ⟨fun g hg => absurd hg List.not_mem_nil, h⟩
  | g :: T, ha, hT, h => by
    obtain ⟨a1, a2, a3⟩ := ha
    have hg : S g := hT g List.mem_cons_self
    have d1 : (2 * g) / 2 = g := by omega
    have d2 : (2 * g + 1) / 2 = g := by omega
    have e1 : rv2 (2 * g) = 2 * g + 1 := by unfold rv2; rw [if_pos (by omega)]
    have e2 : rv2 (2 * g + 1) = 2 * g := by unfold rv2; rw [if_neg (by omega)]; omega
    have key := untw (D := fun s => S (s / 2)) (N := 2 * A.flatten.length) (a := 2 * g) (b := 2 * g + 1) (p := piT A sg T) (q := piT A sg (g :: T)) (L := L) (C := fun s => cls A T (crs A (tlv A s))) (fun s hs => clo_lt hS hs) (fun s hs => clo_pi hS hs) (fun s t hs ht e => piT_inj hd hS hs ht e) (by show S (2 * g / 2); rw [d1]; exact hg) (by show S ((2 * g + 1) / 2); rw [d2]; exact hg) (fun s h8 h9 => by
      have hne : s / 2 ≠ g := fun e => by omega
      unfold piT
      by_cases h7 : s / 2 ∈ T
      · rw [if_pos h7, if_pos (List.mem_cons_of_mem _ h7)]
      · rw [if_neg h7, if_neg (fun h6 => by
          rcases List.mem_cons.mp h6 with h5 | h5
          · exact hne h5
          · exact h7 h5)]) (by
      unfold piT
      rw [d1, d2, if_pos List.mem_cons_self, if_neg a1, e2]) (by
      unfold piT
      rw [d1, d2, if_pos List.mem_cons_self, if_neg a1, e1]) (fun s hs => piT_cls hd hS hs) (by
      show cls A T (crs A (tlv A (2 * g))) ≠ cls A T (crs A (tlv A (2 * g + 1)))
      unfold tlv
      rw [if_pos (by omega), if_neg (by omega), d1, d2]
      exact a2) h
    obtain ⟨k1, k2⟩ := tree_L hd hS T a3 (fun t ht => hT t (List.mem_cons_of_mem _ ht)) key.2
    refine ⟨fun t ht => ?_, k2⟩
    rcases List.mem_cons.mp ht with h9 | h9
    · rw [h9]; exact key.1
    · exact k1 t h9
theorem smv_mt (hF : wkF A.flatten) {w : Nat} (hw : w < A.flatten.length) : smv A sg (mtf A w) = !smv A sg w := by
  have hd := wkF_ok hF
  have hc := crs_mtf hd hw
  have hml := mtf_lt hd hw
  have u1 := (hF.2 _ (List.mem_of_getElem? (vAt_of hw))).2.1
  have u2 := (hF.2 _ (List.mem_of_getElem? (vAt_of hml))).2.1
  have u3 : uns A (mtf A w) = 1 - uns A w := by
    by_cases h : uns A w = 0
    · have := mtf_uns hF hml (v := mtf A w)
      rw [mtf_mtf hd hw] at this
      have h2 : uns A (mtf A w) ≠ 0 := fun e => by
        refine mtf_ne hd hw (nodup_at hF.1 (vAt_of hml) ?_)
        rw [vAt_of hw]
        congr 1
        exact Prod.ext hc.symm (h.trans e.symm)
      have u2 : uns A (mtf A w) < 2 := u2
      omega
    · rw [mtf_uns hF hw h]
      have u1 : uns A w < 2 := u1
      omega
  unfold smv
  rw [hc, u3]
  have u1 : uns A w < 2 := u1
  rcases Nat.lt_or_ge (uns A w) 1 with h | h
  · have h0 : uns A w = 0 := by omega
    rw [h0]
    cases sg (crs A w) <;> rfl
  · have h0 : uns A w = 1 := by omega
    rw [h0]
    cases sg (crs A w) <;> rfl
/-- a label of sides that is kept by the faces and across all gaps is one label around each crossing -/
theorem lab_x (hF : wkF A.flatten) (hS : cloS A S) {L : Nat → Nat} (h1 : ∀ s, S (s / 2) → L (phi A sg s) = L s) (h2 : ∀ g, S g → L (2 * g) = L (2 * g + 1)) : ∀ w, S w → L (2 * rn_pv A w) = L (2 * w) ∧ L (2 * mtf A w) = L (2 * w) := by
  have hd := wkF_ok hF
  have fwd : ∀ w, S w → L (2 * rn_pv A w) = if smv A sg w then L (2 * mtf A w) else L (2 * rn_pv A (mtf A w)) := by
    intro w hw
    have hp := hS.2.2.1 w hw
    have hm := hS.2.2.2 w hw
    have e1 := h1 (2 * rn_pv A w) (by rw [show 2 * rn_pv A w / 2 = rn_pv A w by omega]; exact hp)
    have e2 : hdv A (2 * rn_pv A w) = w := by
      unfold hdv
      rw [if_pos (by omega), show 2 * rn_pv A w / 2 = rn_pv A w by omega, nx_pv (hS.1 w hw)]
    rw [← e1]
    unfold phi wyv
    rw [e2]
    cases smv A sg w with
    | true => 
      rw [if_pos rfl, if_pos rfl, if_pos (by omega)]
    | false =>
      show L (if 1 - 2 * rn_pv A w % 2 = 0 then 2 * mtf A w else 2 * rn_pv A (mtf A w) + 1) = L (2 * rn_pv A (mtf A w))
      rw [if_neg (by omega)]
      exact (h2 _ (hS.2.2.1 _ hm)).symm
  have bwd : ∀ w, S w → L (2 * w) = if smv A sg w then L (2 * rn_pv A (mtf A w)) else L (2 * mtf A w) := by
    intro w hw
    have hm := hS.2.2.2 w hw
    have e1 := h1 (2 * w + 1) (by rw [show (2 * w + 1) / 2 = w by omega]; exact hw)
    have e2 : hdv A (2 * w + 1) = w := by
      unfold hdv
      rw [if_neg (by omega)]
      omega
    rw [h2 w hw, ← e1]
    unfold phi wyv
    rw [e2]
    cases smv A sg w with
    | true =>
      rw [if_pos rfl, if_pos rfl, if_neg (by omega)]
      exact (h2 _ (hS.2.2.1 _ hm)).symm
    | false =>
      show L (if 1 - (2 * w + 1) % 2 = 0 then 2 * mtf A w else 2 * rn_pv A (mtf A w) + 1) = L (2 * mtf A w)
      rw [if_pos (by omega)]
  intro w hw
  have hm := hS.2.2.2 w hw
  have f1 := fwd w hw
  have f2 := fwd _ hm
  have b1 := bwd w hw
  have b2 := bwd _ hm
  rw [smv_mt hF (hS.1 w hw), mtf_mtf hd (hS.1 w hw)] at f2 b2
  cases hsm : smv A sg w with
  | true =>
    rw [hsm, if_pos rfl] at f1 b1
    rw [hsm, if_neg (by decide)] at f2 b2
    exact ⟨by rw [f1, b2], b2⟩
  | false =>
    rw [hsm, if_neg (by decide)] at f1 b1
    rw [hsm, if_pos (by rfl)] at f2 b2
    exact ⟨by rw [← b2, b1], b1.symm⟩
/-- a visit of part p -/
def inP (A : rn_L) (M : Nat → Int32) (p v : Nat) : Prop := v < A.flatten.length ∧ M (rn_c A v) = nI p
theorem c_nx {v : Nat} (hv : v < A.flatten.length) : rn_c A (rn_nx A v) = rn_c A v := by
  obtain ⟨h1, h2, h3⟩ := rn_c_in A v hv
  refine rn_c_of A _ _ ?_ ?_
  · unfold rn_nx; split <;> omega
  · unfold rn_nx; split <;> omega
theorem c_pv {v : Nat} (hv : v < A.flatten.length) : rn_c A (rn_pv A v) = rn_c A v := by
  obtain ⟨h1, h2, h3⟩ := rn_c_in A v hv
  refine rn_c_of A _ _ ?_ ?_
  · unfold rn_pv; split <;> omega
  · unfold rn_pv; split <;> omega
theorem inP_clo {M : Nat → Int32} {P p : Nat} (hd : rn_ok A.flatten) (hM : rn_SD A M P) (hp : p < P) : cloS A (inP A M p) := by
  refine ⟨fun v h => h.1, fun v h => ⟨rn_nx_lt h.1, by rw [c_nx h.1]; exact h.2⟩, fun v h => ⟨rn_pv_lt h.1, by rw [c_pv h.1]; exact h.2⟩, fun v h => ⟨mtf_lt hd h.1, hM.2.1 _ _ p hp ⟨v, mtf A v, mtf_mt hd h.1, rfl, rfl⟩ h.2⟩⟩
/-- what stays along the rings and through the crossings is one over a part -/
theorem inP_one {M : Nat → Int32} {P p : Nat} {f : Nat → Nat} (hd : rn_ok A.flatten) (hM : rn_SD A M P) (hp : p < P) (h1 : ∀ v, inP A M p v → f (rn_pv A v) = f v) (h2 : ∀ v, inP A M p v → f (mtf A v) = f v) {v w : Nat} (hv : inP A M p v) (hw : inP A M p w) : f v = f w := by
  have ring : ∀ v, inP A M p v → f v = f (rn_b A (rn_c A v)) := by
    intro v
    induction v using Nat.strongRecOn with
    | ind v ih =>
    intro hv
    obtain ⟨g1, g2, g3⟩ := rn_c_in A v hv.1
    by_cases hb : rn_b A (rn_c A v) = v
    · rw [hb]
    · have e1 : rn_pv A v = v - 1 := by
        unfold rn_pv
        rw [if_pos (by omega)]
      have h4 := h1 v hv
      rw [e1] at h4
      have e2 : rn_c A (v - 1) = rn_c A v := rn_c_of A _ _ (by omega) (by omega)
      have := ih (v - 1) (by omega) ⟨by have := hv.1; omega, by rw [e2]; exact hv.2⟩
      rw [e2] at this
      rw [← h4, this]
  have hc1 := (rn_c_in A v hv.1).1
  have hc2 := (rn_c_in A w hw.1).1
  have hcon := hM.2.2.1 _ _ p hp hc1 hc2 hv.2 hw.2
  have key := hcon (fun x => M x = nI p ∧ ∀ u, u < A.flatten.length → rn_c A u = x → f u = f v) ⟨hv.2, fun u hu e => by
    have hu2 : inP A M p u := ⟨hu, by rw [e]; exact hv.2⟩
    rw [ring u hu2, ring v hv, e]⟩ (fun x y ⟨hx1, hx2⟩ hxy => by
    have hy1 := hM.2.1 x y p hp hxy hx1
    obtain ⟨a, b, hab, ea, eb⟩ := hxy
    have hal := (rn_mt_lt hab).1
    have hbl := (rn_mt_lt hab).2
    refine ⟨hy1, fun u hu e => ?_⟩
    have hu2 : inP A M p u := ⟨hu, by rw [e]; exact hy1⟩
    have hb2 : inP A M p b := ⟨hbl, by rw [eb]; exact hy1⟩
    have ha2 : inP A M p a := ⟨hal, by rw [ea]; exact hx1⟩
    rw [ring u hu2, e, ← eb, ← ring b hb2, ← mtf_eq hd hab, h2 a ha2]
    exact hx2 a hal ea)
  exact (key.2 w hw.1 rfl).symm
theorem mgL_kP {D : Nat → Prop} : ∀ (E : List (Nat × Nat)) (L : Nat → Nat) (k : Nat), (∃ R : List Nat, R.length ≤ k ∧ ∀ x, D x → mgL L E x ∈ R) → ∃ R : List Nat, R.length ≤ k + E.length ∧ ∀ x, D x → L x ∈ R
  | [], L, k, h => h
  | (a, b) :: E, L, k, h => by
    obtain ⟨R, h1, h2⟩ := mgL_kP E _ k h
    refine ⟨L a :: R, by rw [List.length_cons, List.length_cons]; omega, fun x hx => ?_⟩
    have := h2 x hx
    by_cases h9 : L x = L a
    · rw [h9]; exact List.mem_cons_self
    · have this : (if L x = L a then L b else L x) ∈ R := this
      rw [if_neg h9] at this
      exact List.mem_cons_of_mem _ this
/-- Euler: a part's faces are at most its crossings and two -/
theorem euler {M : Nat → Int32} {P p c : Nat} {f : Nat → Nat} (hok : okF A.flatten c) (hc40 : c ≤ 40) (hM : rn_SD A M P) (hp : p < P) (hf : ∀ s, s < 2 * A.flatten.length → f (phi A sg s) = f s) {v0 : Nat} (hv0 : inP A M p v0) : ∃ R : List Nat, R.length ≤ c + 2 ∧ ∀ s, inP A M p (s / 2) → f s ∈ R := by
  have hF := okF_wk hc40 hok
  have hd := wkF_ok hF
  have hS := inP_clo hd hM hp
  let S := inP A M p
  let G := (List.range A.flatten.length).filter (fun v => decide (M (rn_c A v) = nI p))
  have hG : ∀ v, v ∈ G ↔ S v := fun v => by
    rw [List.mem_filter, List.mem_range, decide_eq_true_iff]
    exact Iff.rfl
  have hGn : G.Nodup := List.nodup_range.filter _
  let T := krT A G
  obtain ⟨hTa, hTn⟩ := krT_acy (A := A) hGn
  have hTS : ∀ g, g ∈ T → S g := fun g hg => (hG g).mp (krT_in hg)
  let E := G.filter (fun g => !decide (g ∈ T))
  let L := mgL f (E.map (fun g => (2 * g, 2 * g + 1)))
  have L1 : ∀ s, S (s / 2) → L (phi A sg s) = L s := fun s hs => mgL_e _ f _ _ (hf s (clo_lt hS hs))
  have L2 : ∀ g, S g → g ∉ T → L (2 * g) = L (2 * g + 1) := fun g hg hn => mgL_m _ f _ _ (List.mem_map.mpr ⟨g, List.mem_filter.mpr ⟨(hG g).mpr hg, by rw [decide_eq_false hn]; rfl⟩, rfl⟩)
  have L2' : ∀ s, S (s / 2) → s / 2 ∉ T → L (rv2 s) = L s := by
    intro s hs hn
    have := L2 _ hs hn
    unfold rv2
    by_cases h : s % 2 = 0
    · rw [if_pos h, show s + 1 = 2 * (s / 2) + 1 by omega, ← this]
      congr 1
      omega
    · rw [if_neg h, show s - 1 = 2 * (s / 2) by omega, this]
      congr 1
      omega
  have L3 : ∀ s, S (s / 2) → L (piT A sg T s) = L s := by
    intro s hs
    unfold piT
    by_cases h : s / 2 ∈ T
    · rw [if_pos h]; exact L1 s hs
    · rw [if_neg h, L1 (rv2 s) (by rw [rv2_h]; exact hs)]
      exact L2' s hs h
  obtain ⟨t1, -⟩ := tree_L hd hS T hTa hTS L3
  have L4 : ∀ g, S g → L (2 * g) = L (2 * g + 1) := fun g hg => by
    by_cases h : g ∈ T
    · exact t1 g h
    · exact L2 g hg h
  have lx := lab_x hF hS L1 L4
  have one : ∀ v w, S v → S w → L (2 * v) = L (2 * w) := fun v w hv hw => inP_one (f := fun v => L (2 * v)) hd hM hp (fun v hv => (lx v hv).1) (fun v hv => (lx v hv).2) hv hw
  have cl1 : ∀ v w, S v → S w → cls A T (crs A v) = cls A T (crs A w) := fun v w hv hw => inP_one (f := fun v => cls A T (crs A v)) hd hM hp (fun v hv => by
    show cls A T (crs A (rn_pv A v)) = cls A T (crs A v)
    have := krT_all (A := A) ((hG _).mpr (hS.2.2.1 v hv))
    rw [nx_pv hv.1] at this
    exact this) (fun v hv => by
    show cls A T (crs A (mtf A v)) = cls A T (crs A v)
    rw [crs_mtf hd hv.1]) hv hw
  -- the crossings of the part
  let O := G.filter (fun v => decide (uns A v = 0))
  let Y := O.map (crs A)
  have hO : ∀ v, v ∈ O ↔ S v ∧ uns A v = 0 := fun v => by
    rw [List.mem_filter, hG, decide_eq_true_iff]
  have hYn : Y.Nodup := by
    refine nodup_map (hGn.filter _) (fun i j hi hj e => ?_)
    obtain ⟨i1, i2⟩ := (hO i).mp hi
    obtain ⟨j1, j2⟩ := (hO j).mp hj
    refine nodup_at hF.1 (vAt_of i1.1) (?_ : A.flatten[j]? = some (vAt A i))
    rw [vAt_of j1.1, show vAt A j = vAt A i from Prod.ext e.symm (j2.trans i2.symm)]
  have hYc : Y.length ≤ c := by
    have := nodup_le Y (List.range c) hYn (fun x hx => by
      obtain ⟨v, hv, e⟩ := List.mem_map.mp hx
      rw [← e]
      exact List.mem_range.mpr ((hok.2 _).mp (List.mem_of_getElem? (vAt_of ((hO v).mp hv).1.1))).1)
    rw [List.length_range] at this
    exact this
  have hYT : Y.length ≤ 1 + T.length := by
    obtain ⟨R, r1, r2⟩ := cls_k (A := A) (Y := Y) T 1 ⟨[cls A T (crs A v0)], Nat.le_refl _, fun x hx => by
      obtain ⟨v, hv, e⟩ := List.mem_map.mp hx
      rw [← e, cl1 v v0 ((hO v).mp hv).1 hv0]
      exact List.mem_singleton.mpr rfl⟩
    have := nodup_le Y R hYn r2
    omega
  have hGY : G.length ≤ 2 * Y.length := by
    have h1 := filt_sum (fun v => decide (uns A v = 0)) G
    have h2 : (G.filter (fun v => !decide (uns A v = 0))).length ≤ O.length := by
      have hn : ((G.filter (fun v => !decide (uns A v = 0))).map (mtf A)).Nodup := nodup_map (hGn.filter _) (fun i j hi hj e => by
        have hi := ((hG i).mp (List.mem_filter.mp hi).1).1
        have hj := ((hG j).mp (List.mem_filter.mp hj).1).1
        have := congrArg (mtf A) e
        rw [mtf_mtf hd hi, mtf_mtf hd hj] at this
        exact this)
      have := nodup_le _ O hn (fun x hx => by
        obtain ⟨v, hv, e⟩ := List.mem_map.mp hx
        obtain ⟨hv1, hv2⟩ := List.mem_filter.mp hv
        have hv1 := (hG v).mp hv1
        have hu : uns A v ≠ 0 := fun h9 => by rw [h9] at hv2; exact absurd hv2 (by decide)
        rw [← e]
        exact (hO _).mpr ⟨hS.2.2.2 v hv1, mtf_uns hF hv1.1 hu⟩)
      rw [List.length_map] at this
      exact this
    have h3 : Y.length = O.length := List.length_map _
    have h4 : (G.filter (fun v => decide (uns A v = 0))).length = O.length := rfl
    omega
  have hET : E.length + T.length ≤ G.length := by
    have h1 := filt_sum (fun g => decide (g ∈ T)) G
    have h2 := nodup_le T (G.filter (fun g => decide (g ∈ T))) hTn (fun g hg => List.mem_filter.mpr ⟨krT_in hg, decide_eq_true hg⟩)
    have h3 : E.length = (G.filter (fun g => !decide (g ∈ T))).length := rfl
    omega
  obtain ⟨R, r1, r2⟩ := mgL_kP (D := fun s => S (s / 2)) (E.map (fun g => (2 * g, 2 * g + 1))) f 1 ⟨[L (2 * v0)], Nat.le_refl _, fun s hs => by
    have e1 : L s = L (2 * (s / 2)) := by
      by_cases h : s % 2 = 0
      · congr 1; omega
      · rw [L4 _ hs]; congr 1; omega
    show L s ∈ _
    rw [e1, one _ v0 hs hv0]
    exact List.mem_singleton.mpr rfl⟩
  rw [List.length_map] at r1
  exact ⟨R, by omega, r2⟩
end EUL
end
