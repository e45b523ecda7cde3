section
/-! 99zzzn.cover -/
/-! cover and colours have an answer -/
theorem cmp_0 {x y : Int64} : lg_cmp x y = 0 ↔ x = y := by
  unfold lg_cmp
  by_cases h : x > y
  · rw [if_pos h]
    refine ⟨fun e => absurd e (by decide), fun e => ?_⟩
    rw [e] at h
    exact absurd h (Int64.lt_irrefl)
  · rw [if_neg h]
    by_cases e : x = y
    · rw [if_pos e]; exact ⟨fun _ => e, fun _ => rfl⟩
    · rw [if_neg e]; exact ⟨fun h9 => absurd h9 (by decide), fun h9 => absurd h9 e⟩
theorem rem_64 {a b : Int64} (hb : b ≠ 0) : (a - a / b * b).toInt = a.toInt.tmod b.toInt := by
  have hb2 : b.toInt ≠ 0 := fun e => hb (Int64.toInt_inj.mp e)
  rw [Int64.toInt_sub, Int64.toInt_mul, Int64.toInt_div]
  simp only [Int.sub_bmod_bmod, Int.bmod_mul_bmod]
  rw [show a.toInt - a.toInt.tdiv b.toInt * b.toInt = a.toInt.tmod b.toInt from by rw [Int.tmod_def, Int.mul_comm]]
  have h1 := Int64.le_toInt a
  have h2 := Int64.toInt_lt a
  have h3 := Int.natAbs_tmod a.toInt b.toInt
  have h4 : a.toInt.natAbs % b.toInt.natAbs ≤ a.toInt.natAbs := Nat.mod_le _ _
  have h5 : a.toInt.natAbs % b.toInt.natAbs < b.toInt.natAbs := Nat.mod_lt _ (by omega)
  have h6 := Int64.le_toInt b
  have h7 := Int64.toInt_lt b
  exact Int.bmod_eq_of_le (by omega) (by omega)
theorem usJ_at {z : ow_MS} {h i : Nat} {x : Int64} : (usJ z h i x).2.2 h i = x := by
  simp [usJ, vp_updL]
theorem usJ_ne {z : ow_MS} {h i j : Nat} {x : Int64} (hj : j ≠ i) : (usJ z h i x).2.2 h j = z.2.2 h j := by
  simp [usJ, vp_updL, hj]
section COV
variable {X : (Nat → Nat → Int32) → Prop} {z : ow_MS}
theorem u_X13_gcd_1 {w0 : Int64} {w2 : Int64} {w4 : Int64} {w6 : Int64} {z : ow_MS} {Q : (Int64 × ow_MS) → Prop} (H : Tt (fun K k => qm_X13_gcd_1 K (q_X13_gcd K k) w0 w2 w4 w6 z) Q) : Tt (fun K k => q_X13_gcd K k 1 w0 w2 w4 w6 z) Q := w_un (fun _ _ => rfl) H
theorem e_X13_gcd {w0 : Int64} {w2 : Int64} {z : ow_MS} {Q : (Int64 × ow_MS) → Prop} (H : Tt (fun K k => q_X13_gcd K k 0 w0 w2 0 0 z) Q) : Te (fun K => qe_X13_gcd K w0 w2 z) Q := w_te H
theorem u_X13_gcd_0 {w0 : Int64} {w2 : Int64} {w4 : Int64} {w6 : Int64} {z : ow_MS} {Q : (Int64 × ow_MS) → Prop} (H : Tt (fun K k => qm_X13_gcd_0 K (q_X13_gcd K k) w0 w2 w4 w6 z) Q) : Tt (fun K k => q_X13_gcd K k 0 w0 w2 w4 w6 z) Q := w_un (fun _ _ => rfl) H
theorem tp_gcd {a b : Int64} : Te (fun K => qe_X13_gcd K a b z) (fun r => r.2 = z) := by
  have key : ∀ (m : Nat) (x y : Int64), y.toInt.natAbs ≤ m → Tt (fun K i => q_X13_gcd K i 1 a b x y z) (fun r => r.2 = z) := by
    intro m
    induction m with
    | zero =>
      intro x y hy
      have hy : y = 0 := Int64.toInt_inj.mp (by show y.toInt = 0; omega)
      refine u_X13_gcd_1 ?_; unfold qm_X13_gcd_1
      exact w_ifT (cmp_0.mpr hy) (w_some rfl)
    | succ m ih =>
      intro x y hy
      refine u_X13_gcd_1 ?_; unfold qm_X13_gcd_1
      refine w_if (fun _ => w_some rfl) (fun h9 => ?_)
      have hy0 : y ≠ 0 := fun e => h9 (cmp_0.mpr e)
      refine w_nzJ hy0 (ih _ _ ?_)
      have hb2 : y.toInt ≠ 0 := fun e => hy0 (Int64.toInt_inj.mp e)
      have h3 := Int.natAbs_tmod x.toInt y.toInt
      have h5 : x.toInt.natAbs % y.toInt.natAbs < y.toInt.natAbs := Nat.mod_lt _ (by omega)
      rw [rem_64 hy0]
      omega
  refine e_X13_gcd ?_
  refine u_X13_gcd_0 ?_; unfold qm_X13_gcd_0
  exact key _ a b (Nat.le_refl _)
/-- the place in the grid -/
theorem gr_ix {x y : Nat} : (24 : Int32) * nI x + nI y = nI (24 * x + y) := by
  rw [show (24 : Int32) * nI x = nI (24 * x) from pk_mul 24 x, nI_add]
theorem sq_ix {x y : Nat} : (13 : Int32) * nI x + nI y = nI (13 * x + y) := by
  rw [show (13 : Int32) * nI x = nI (13 * x) from pk_mul 13 x, nI_add]
theorem u_X13_unit_7 {x1 : Int32} {x2 : Int32} {x3 : Int32} {x4 : Int32} {x5 : Int32} {x6 : Int32} {z : ow_MS} {Q : (Int32 × ow_MS) → Prop} (H : Tt (fun K k => qm_X13_unit_7 K (q_X13_unit K k) x1 x2 x3 x4 x5 x6 z) Q) : Tt (fun K k => q_X13_unit K k 7 x1 x2 x3 x4 x5 x6 z) Q := w_un (fun _ _ => rfl) H
theorem u_X13_unit_6 {x1 : Int32} {x2 : Int32} {x3 : Int32} {x4 : Int32} {x5 : Int32} {x6 : Int32} {z : ow_MS} {Q : (Int32 × ow_MS) → Prop} (H : Tt (fun K k => qm_X13_unit_6 K (q_X13_unit K k) x1 x2 x3 x4 x5 x6 z) Q) : Tt (fun K k => q_X13_unit K k 6 x1 x2 x3 x4 x5 x6 z) Q := w_un (fun _ _ => rfl) H
theorem u_X13_unit_5 {x1 : Int32} {x2 : Int32} {x3 : Int32} {x4 : Int32} {x5 : Int32} {x6 : Int32} {z : ow_MS} {Q : (Int32 × ow_MS) → Prop} (H : Tt (fun K k => qm_X13_unit_5 K (q_X13_unit K k) x1 x2 x3 x4 x5 x6 z) Q) : Tt (fun K k => q_X13_unit K k 5 x1 x2 x3 x4 x5 x6 z) Q := w_un (fun _ _ => rfl) H
theorem u_X13_unit_1 {x1 : Int32} {x2 : Int32} {x3 : Int32} {x4 : Int32} {x5 : Int32} {x6 : Int32} {z : ow_MS} {Q : (Int32 × ow_MS) → Prop} (H : Tt (fun K k => qm_X13_unit_1 K (q_X13_unit K k) x1 x2 x3 x4 x5 x6 z) Q) : Tt (fun K k => q_X13_unit K k 1 x1 x2 x3 x4 x5 x6 z) Q := w_un (fun _ _ => rfl) H
theorem u_X13_unit_4 {x1 : Int32} {x2 : Int32} {x3 : Int32} {x4 : Int32} {x5 : Int32} {x6 : Int32} {z : ow_MS} {Q : (Int32 × ow_MS) → Prop} (H : Tt (fun K k => qm_X13_unit_4 K (q_X13_unit K k) x1 x2 x3 x4 x5 x6 z) Q) : Tt (fun K k => q_X13_unit K k 4 x1 x2 x3 x4 x5 x6 z) Q := w_un (fun _ _ => rfl) H
theorem u_X13_unit_2 {x1 : Int32} {x2 : Int32} {x3 : Int32} {x4 : Int32} {x5 : Int32} {x6 : Int32} {z : ow_MS} {Q : (Int32 × ow_MS) → Prop} (H : Tt (fun K k => qm_X13_unit_2 K (q_X13_unit K k) x1 x2 x3 x4 x5 x6 z) Q) : Tt (fun K k => q_X13_unit K k 2 x1 x2 x3 x4 x5 x6 z) Q := w_un (fun _ _ => rfl) H
theorem u_X13_unit_3 {x1 : Int32} {x2 : Int32} {x3 : Int32} {x4 : Int32} {x5 : Int32} {x6 : Int32} {z : ow_MS} {Q : (Int32 × ow_MS) → Prop} (H : Tt (fun K k => qm_X13_unit_3 K (q_X13_unit K k) x1 x2 x3 x4 x5 x6 z) Q) : Tt (fun K k => q_X13_unit K k 3 x1 x2 x3 x4 x5 x6 z) Q := w_un (fun _ _ => rfl) H
theorem e_X13_unit {x1 : Int32} {x2 : Int32} {z : ow_MS} {Q : (Int32 × ow_MS) → Prop} (H : Tt (fun K k => q_X13_unit K k 0 x1 x2 0 0 0 0 z) Q) : Te (fun K => qe_X13_unit K x1 x2 z) Q := w_te H
theorem u_X13_unit_0 {x1 : Int32} {x2 : Int32} {x3 : Int32} {x4 : Int32} {x5 : Int32} {x6 : Int32} {z : ow_MS} {Q : (Int32 × ow_MS) → Prop} (H : Tt (fun K k => qm_X13_unit_0 K (q_X13_unit K k) x1 x2 x3 x4 x5 x6 z) Q) : Tt (fun K k => q_X13_unit K k 0 x1 x2 x3 x4 x5 x6 z) Q := w_un (fun _ _ => rfl) H
theorem tp_unit {t c a : Nat} (ht : t < c) (hc : c ≤ 12) (hta : t < a) (ha : a ≤ 18) (h58 : z.1 58 = nI a) : Te (fun K => qe_X13_unit K (nI t) (nI c) z) (fun r => fr (fun g => g = 64) z r.2) := by
  let Q : Int32 × ow_MS → Prop := fun r => fr (fun g => g = 64) z r.2
  have aF : ∀ {y : ow_MS}, fr (fun g => g = 64) z y → y.1 58 = nI a := fun hf => by rw [(hf 58 (by omega)).1]; exact h58
  have c7 : ∀ (d i r s : Nat) (y : ow_MS), i + d = c → r < c → s < a → fr (fun g => g = 64) z y → Tt (fun K k => q_X13_unit K k 7 (nI t) (nI c) (nI r) (nI s) (nI i) 0 y) Q := by
    intro d
    induction d with
    | zero =>
      intro i r s y hi hr hs hf
      refine u_X13_unit_7 ?_; unfold qm_X13_unit_7
      exact w_leT (by omega) (by omega) (w_okZ (Or.inr rfl) (w_some hf))
    | succ d ih =>
      intro i r s y hi hr hs hf
      refine u_X13_unit_7 ?_; unfold qm_X13_unit_7
      rw [nI_1, gr_ix, gr_ix]
      exact w_leF (by omega) (by omega) (w_rdJ ml64 rfl (by omega) rfl (w_rdJ ml64 rfl (by omega) rfl (w_wrJ ml64 rfl (by omega) (w_wrJ ml64 rfl (by omega) (ih (i + 1) r s _ (by omega) hr hs (fr_J2 (fr_J2 hf rfl) rfl))))))
  have c6 : ∀ (d i r s : Nat) (y : ow_MS), i + d = a → r < c → s < a → fr (fun g => g = 64) z y → Tt (fun K k => q_X13_unit K k 6 (nI t) (nI c) (nI r) (nI s) (nI i) 0 y) Q := by
    intro d
    induction d with
    | zero =>
      intro i r s y hi hr hs hf
      refine u_X13_unit_6 ?_; unfold qm_X13_unit_6
      exact w_rdF (aF hf) (w_leT (by omega) (by omega) (c7 c 0 r s y (by omega) hr hs hf))
    | succ d ih =>
      intro i r s y hi hr hs hf
      refine u_X13_unit_6 ?_; unfold qm_X13_unit_6
      rw [nI_1, gr_ix, gr_ix]
      exact w_rdF (aF hf) (w_leF (by omega) (by omega) (w_rdJ ml64 rfl (by omega) rfl (w_rdJ ml64 rfl (by omega) rfl (w_wrJ ml64 rfl (by omega) (w_wrJ ml64 rfl (by omega) (ih (i + 1) r s _ (by omega) hr hs (fr_J2 (fr_J2 hf rfl) rfl)))))))
  have c5 : ∀ (x3 x4 x5 : Int32), (x3 = -1 ∨ ∃ r s, x3 = nI r ∧ r < c ∧ x4 = nI s ∧ s < a) → Tt (fun K k => q_X13_unit K k 5 (nI t) (nI c) x3 x4 x5 0 z) Q := by
    intro x3 x4 x5 h
    refine u_X13_unit_5 ?_; unfold qm_X13_unit_5
    refine w_if (fun _ => w_okZ (Or.inl rfl) (w_some fr_rf)) (fun h9 => ?_)
    rcases h with h | ⟨r, s, rfl, hr, rfl, hs⟩
    · exact absurd h h9
    · exact c6 a 0 r s z (by omega) hr hs fr_rf
  have c1 : ∀ (d i : Nat) (x3 x4 : Int32), i + d = c → (x3 = -1 ∨ ∃ r s, x3 = nI r ∧ r < c ∧ x4 = nI s ∧ s < a) → Tt (fun K k => q_X13_unit K k 1 (nI t) (nI c) x3 x4 (nI i) 0 z) Q := by
    intro d
    induction d with
    | zero =>
      intro i x3 x4 hi h
      refine u_X13_unit_1 ?_; unfold qm_X13_unit_1
      exact w_leT (by omega) (by omega) (c5 _ _ _ h)
    | succ d ih =>
      intro i x3 x4 hi h
      have c4 : ∀ (x3 x4 x6 : Int32), (x3 = -1 ∨ ∃ r s, x3 = nI r ∧ r < c ∧ x4 = nI s ∧ s < a) → Tt (fun K k => q_X13_unit K k 4 (nI t) (nI c) x3 x4 (nI i) x6 z) Q := by
        intro x3 x4 x6 h
        refine u_X13_unit_4 ?_; unfold qm_X13_unit_4
        rw [nI_1]
        exact ih (i + 1) x3 x4 (by omega) h
      have c2 : ∀ (d j : Nat) (x3 x4 : Int32), j + d = a → (x3 = -1 ∨ ∃ r s, x3 = nI r ∧ r < c ∧ x4 = nI s ∧ s < a) → Tt (fun K k => q_X13_unit K k 2 (nI t) (nI c) x3 x4 (nI i) (nI j) z) Q := by
        intro d
        induction d with
        | zero =>
          intro j x3 x4 hj h
          refine u_X13_unit_2 ?_; unfold qm_X13_unit_2
          exact w_rdF h58 (w_leT (by omega) (by omega) (c4 _ _ _ h))
        | succ d ih2 =>
          intro j x3 x4 hj h
          refine u_X13_unit_2 ?_; unfold qm_X13_unit_2
          rw [gr_ix]
          refine w_rdF h58 (w_leF (by omega) (by omega) (w_if (fun h9 => w_rdJ ml64 rfl (by omega) rfl (w_if (fun _ => ?_) (fun _ => ?_))) (fun _ => c4 _ _ _ h)))
          · refine u_X13_unit_3 ?_; unfold qm_X13_unit_3
            rw [nI_1]
            exact ih2 (j + 1) _ _ (by omega) (Or.inr ⟨i, j, rfl, by omega, rfl, by omega⟩)
          · refine u_X13_unit_3 ?_; unfold qm_X13_unit_3
            rw [nI_1]
            exact ih2 (j + 1) _ _ (by omega) h
      refine u_X13_unit_1 ?_; unfold qm_X13_unit_1
      exact w_leF (by omega) (by omega) (w_if (fun _ => c2 (a - t) t _ _ (by omega) h) (fun _ => c5 _ _ _ h))
  refine e_X13_unit ?_
  refine u_X13_unit_0 ?_; unfold qm_X13_unit_0
  exact c1 (c - t) t _ _ (by omega) (Or.inl rfl)
/-- what leave leaves -/
def lvI (y : ow_MS) (m q c a : Nat) : Prop := y.1 70 = nI m ∧ y.1 71 = nI q ∧ (∀ i, i < m → inR y 68 i c) ∧ ∀ i, i < q → inR y 69 i a
theorem u_X13_leave_5 {x1 : Int32} {x2 : Int32} {x3 : Int32} {x4 : Int32} {x5 : Int32} {t0 : Int32} {t1 : Int32} {z : ow_MS} {Q : ow_MS → Prop} (H : Tt (fun K k => qm_X13_leave_5 K (q_X13_leave K k) x1 x2 x3 x4 x5 t0 t1 z) Q) : Tt (fun K k => q_X13_leave K k 5 x1 x2 x3 x4 x5 t0 t1 z) Q := w_un (fun _ _ => rfl) H
theorem u_X13_leave_8 {x1 : Int32} {x2 : Int32} {x3 : Int32} {x4 : Int32} {x5 : Int32} {t0 : Int32} {t1 : Int32} {z : ow_MS} {Q : ow_MS → Prop} (H : Tt (fun K k => qm_X13_leave_8 K (q_X13_leave K k) x1 x2 x3 x4 x5 t0 t1 z) Q) : Tt (fun K k => q_X13_leave K k 8 x1 x2 x3 x4 x5 t0 t1 z) Q := w_un (fun _ _ => rfl) H
theorem u_X13_leave_6 {x1 : Int32} {x2 : Int32} {x3 : Int32} {x4 : Int32} {x5 : Int32} {t0 : Int32} {t1 : Int32} {z : ow_MS} {Q : ow_MS → Prop} (H : Tt (fun K k => qm_X13_leave_6 K (q_X13_leave K k) x1 x2 x3 x4 x5 t0 t1 z) Q) : Tt (fun K k => q_X13_leave K k 6 x1 x2 x3 x4 x5 t0 t1 z) Q := w_un (fun _ _ => rfl) H
theorem u_X13_leave_7 {x1 : Int32} {x2 : Int32} {x3 : Int32} {x4 : Int32} {x5 : Int32} {t0 : Int32} {t1 : Int32} {z : ow_MS} {Q : ow_MS → Prop} (H : Tt (fun K k => qm_X13_leave_7 K (q_X13_leave K k) x1 x2 x3 x4 x5 t0 t1 z) Q) : Tt (fun K k => q_X13_leave K k 7 x1 x2 x3 x4 x5 t0 t1 z) Q := w_un (fun _ _ => rfl) H
theorem u_X13_leave_1 {x1 : Int32} {x2 : Int32} {x3 : Int32} {x4 : Int32} {x5 : Int32} {t0 : Int32} {t1 : Int32} {z : ow_MS} {Q : ow_MS → Prop} (H : Tt (fun K k => qm_X13_leave_1 K (q_X13_leave K k) x1 x2 x3 x4 x5 t0 t1 z) Q) : Tt (fun K k => q_X13_leave K k 1 x1 x2 x3 x4 x5 t0 t1 z) Q := w_un (fun _ _ => rfl) H
theorem u_X13_leave_4 {x1 : Int32} {x2 : Int32} {x3 : Int32} {x4 : Int32} {x5 : Int32} {t0 : Int32} {t1 : Int32} {z : ow_MS} {Q : ow_MS → Prop} (H : Tt (fun K k => qm_X13_leave_4 K (q_X13_leave K k) x1 x2 x3 x4 x5 t0 t1 z) Q) : Tt (fun K k => q_X13_leave K k 4 x1 x2 x3 x4 x5 t0 t1 z) Q := w_un (fun _ _ => rfl) H
theorem u_X13_leave_2 {x1 : Int32} {x2 : Int32} {x3 : Int32} {x4 : Int32} {x5 : Int32} {t0 : Int32} {t1 : Int32} {z : ow_MS} {Q : ow_MS → Prop} (H : Tt (fun K k => qm_X13_leave_2 K (q_X13_leave K k) x1 x2 x3 x4 x5 t0 t1 z) Q) : Tt (fun K k => q_X13_leave K k 2 x1 x2 x3 x4 x5 t0 t1 z) Q := w_un (fun _ _ => rfl) H
theorem u_X13_leave_3 {x1 : Int32} {x2 : Int32} {x3 : Int32} {x4 : Int32} {x5 : Int32} {t0 : Int32} {t1 : Int32} {z : ow_MS} {Q : ow_MS → Prop} (H : Tt (fun K k => qm_X13_leave_3 K (q_X13_leave K k) x1 x2 x3 x4 x5 t0 t1 z) Q) : Tt (fun K k => q_X13_leave K k 3 x1 x2 x3 x4 x5 t0 t1 z) Q := w_un (fun _ _ => rfl) H
theorem e_X13_leave {x1 : Int32} {x2 : Int32} {z : ow_MS} {Q : ow_MS → Prop} (H : Tt (fun K k => q_X13_leave K k 0 x1 x2 0 0 0 0 0 z) Q) : Te (fun K => qe_X13_leave K x1 x2 z) Q := w_te H
theorem u_X13_leave_0 {x1 : Int32} {x2 : Int32} {x3 : Int32} {x4 : Int32} {x5 : Int32} {t0 : Int32} {t1 : Int32} {z : ow_MS} {Q : ow_MS → Prop} (H : Tt (fun K k => qm_X13_leave_0 K (q_X13_leave K k) x1 x2 x3 x4 x5 t0 t1 z) Q) : Tt (fun K k => q_X13_leave K k 0 x1 x2 x3 x4 x5 t0 t1 z) Q := w_un (fun _ _ => rfl) H
theorem tp_leave {t c a : Nat} (ht : t ≤ c) (hc : c ≤ 12) (hta : t ≤ a) (ha : a ≤ 18) (h58 : z.1 58 = nI a) : Te (fun K => qe_X13_leave K (nI t) (nI c) z) (fun z1 => (∃ m q, m ≤ c ∧ q ≤ a ∧ lvI z1 m q c a) ∧ fr (fun g => 68 ≤ g ∧ g ≤ 71) z z1) := by
  let Q : ow_MS → Prop := fun z1 => (∃ m q, m ≤ c ∧ q ≤ a ∧ lvI z1 m q c a) ∧ fr (fun g => 68 ≤ g ∧ g ≤ 71) z z1
  have aF : ∀ {y : ow_MS}, fr (fun g => 68 ≤ g ∧ g ≤ 71) z y → y.1 58 = nI a := fun hf => by rw [(hf 58 (by omega)).1]; exact h58
  have c5 : ∀ (d j m q : Nat) (y : ow_MS), j + d = a → t ≤ j → m ≤ c → q + t ≤ j → fr (fun g => 68 ≤ g ∧ g ≤ 71) z y → lvI y m q c a → Tt (fun K k => q_X13_leave K k 5 (nI t) (nI c) (nI j) 0 0 0 0 y) Q := by
    intro d
    induction d with
    | zero =>
      intro j m q y hj htj hm hq hf hL
      refine u_X13_leave_5 ?_; unfold qm_X13_leave_5
      exact w_rdF (aF hf) (w_leT (by omega) (by omega) (w_some ⟨⟨m, q, hm, by omega, hL⟩, hf⟩))
    | succ d ih =>
      intro j m q y hj htj hm hq hf hL
      have c8 : ∀ (x4 x5 : Int32) (q : Nat) (y : ow_MS), q + t ≤ j + 1 → fr (fun g => 68 ≤ g ∧ g ≤ 71) z y → lvI y m q c a → Tt (fun K k => q_X13_leave K k 8 (nI t) (nI c) (nI j) x4 x5 0 0 y) Q := by
        intro x4 x5 q y hq hf hL
        refine u_X13_leave_8 ?_; unfold qm_X13_leave_8
        rw [nI_1]
        exact ih (j + 1) m q y (by omega) (by omega) hm (by omega) hf hL
      have c6 : ∀ (d i : Nat) (x4 : Int32), i + d = c → Tt (fun K k => q_X13_leave K k 6 (nI t) (nI c) (nI j) x4 (nI i) 0 0 y) Q := by
        intro d
        induction d with
        | zero =>
          intro i x4 hi
          refine u_X13_leave_6 ?_; unfold qm_X13_leave_6
          refine w_leT (by omega) (by omega) (w_if (fun _ => c8 _ _ q y (by omega) hf hL) (fun _ => w_rdF hL.2.1 (w_wrI ml69 rfl (by omega) (w_rdF (x := nI q) hL.2.1 (w_wrF (c8 _ _ (q + 1) _ (by omega) (fr_F2 (fr_I2 hf (by omega)) (by omega)) ⟨?_, po_usF_at.trans (nI_1 q), fun k hk => ?_, fun k hk => ?_⟩))))))
          · exact rf_ot (by omega) hL.1
          · exact inR_ot (by omega) (hL.2.2.1 k hk)
          · show inR (usI y 69 q (nI j)) 69 k a
            by_cases hkq : k = q
            · rw [hkq]; exact inR_set (by omega)
            · exact inR_keep (hL.2.2.2 k (by omega)) ⟨j, by omega, rfl⟩
        | succ d ih6 =>
          intro i x4 hi
          refine u_X13_leave_6 ?_; unfold qm_X13_leave_6
          rw [gr_ix]
          refine w_leF (by omega) (by omega) (w_rdJ ml64 rfl (by omega) rfl (w_if (fun _ => ?_) (fun _ => ?_)))
          · refine u_X13_leave_7 ?_; unfold qm_X13_leave_7
            rw [nI_1]
            exact ih6 (i + 1) _ (by omega)
          · refine u_X13_leave_7 ?_; unfold qm_X13_leave_7
            rw [nI_1]
            exact ih6 (i + 1) _ (by omega)
      refine u_X13_leave_5 ?_; unfold qm_X13_leave_5
      exact w_rdF (aF hf) (w_leF (by omega) (by omega) (c6 (c - t) t 0 (by omega)))
  have c1 : ∀ (d i m : Nat) (y : ow_MS), i + d = c → t ≤ i → m + t ≤ i → fr (fun g => 68 ≤ g ∧ g ≤ 71) z y → y.1 70 = nI m → (∀ k, k < m → inR y 68 k c) → Tt (fun K k => q_X13_leave K k 1 (nI t) (nI c) (nI i) 0 0 0 0 y) Q := by
    intro d
    induction d with
    | zero =>
      intro i m y hi hti hm hf h70 hR
      refine u_X13_leave_1 ?_; unfold qm_X13_leave_1
      exact w_leT (by omega) (by omega) (w_wrF (c5 (a - t) t m 0 _ (by omega) (Nat.le_refl _) (by omega) (by omega) (fr_F2 hf (by omega)) ⟨rf_ot (by omega) h70, po_usF_at, hR, fun k hk => absurd hk (by omega)⟩))
    | succ d ih =>
      intro i m y hi hti hm hf h70 hR
      have c4 : ∀ (x4 x5 : Int32) (m : Nat) (y : ow_MS), m + t ≤ i + 1 → fr (fun g => 68 ≤ g ∧ g ≤ 71) z y → y.1 70 = nI m → (∀ k, k < m → inR y 68 k c) → Tt (fun K k => q_X13_leave K k 4 (nI t) (nI c) (nI i) x4 x5 0 0 y) Q := by
        intro x4 x5 m y hm hf h70 hR
        refine u_X13_leave_4 ?_; unfold qm_X13_leave_4
        rw [nI_1]
        exact ih (i + 1) m y (by omega) (by omega) (by omega) hf h70 hR
      have c2 : ∀ (d j : Nat) (x4 : Int32), j + d = a → Tt (fun K k => q_X13_leave K k 2 (nI t) (nI c) (nI i) x4 (nI j) 0 0 y) Q := by
        intro d
        induction d with
        | zero =>
          intro j x4 hj
          refine u_X13_leave_2 ?_; unfold qm_X13_leave_2
          refine w_rdF (aF hf) (w_leT (by omega) (by omega) (w_if (fun _ => c4 _ _ m y (by omega) hf h70 hR) (fun _ => w_rdF h70 (w_wrI ml68 rfl (by omega) (w_rdF (x := nI m) h70 (w_wrF (c4 _ _ (m + 1) _ (by omega) (fr_F2 (fr_I2 hf (by omega)) (by omega)) (po_usF_at.trans (nI_1 m)) (fun k hk => ?_))))))))
          show inR (usI y 68 m (nI i)) 68 k c
          by_cases hkq : k = m
          · rw [hkq]; exact inR_set (by omega)
          · exact inR_keep (hR k (by omega)) ⟨i, by omega, rfl⟩
        | succ d ih2 =>
          intro j x4 hj
          refine u_X13_leave_2 ?_; unfold qm_X13_leave_2
          rw [gr_ix]
          refine w_rdF (aF hf) (w_leF (by omega) (by omega) (w_rdJ ml64 rfl (by omega) rfl (w_if (fun _ => ?_) (fun _ => ?_))))
          · refine u_X13_leave_3 ?_; unfold qm_X13_leave_3
            rw [nI_1]
            exact ih2 (j + 1) _ (by omega)
          · refine u_X13_leave_3 ?_; unfold qm_X13_leave_3
            rw [nI_1]
            exact ih2 (j + 1) _ (by omega)
      refine u_X13_leave_1 ?_; unfold qm_X13_leave_1
      exact w_leF (by omega) (by omega) (c2 (a - t) t 0 (by omega))
  refine e_X13_leave ?_
  refine u_X13_leave_0 ?_; unfold qm_X13_leave_0
  exact w_wrF (c1 (c - t) t 0 _ (by omega) (Nat.le_refl _) (by omega) (fr_F (by omega)) po_usF_at (fun k hk => absurd hk (by omega)))
theorem u_X13_minor_5 {x1 : Int32} {x2 : Int32} {x3 : Int32} {x4 : Int32} {x5 : Int32} {x6 : Int32} {x7 : Int32} {x8 : Int32} {x9 : Int32} {x10 : Int32} {w5 : Int64} {z : ow_MS} {Q : (Int64 × ow_MS) → Prop} (H : Tt (fun K k => qm_X13_minor_5 K (q_X13_minor K k) x1 x2 x3 x4 x5 x6 x7 x8 x9 x10 w5 z) Q) : Tt (fun K k => q_X13_minor K k 5 x1 x2 x3 x4 x5 x6 x7 x8 x9 x10 w5 z) Q := w_un (fun _ _ => rfl) H
theorem u_X13_minor_9 {x1 : Int32} {x2 : Int32} {x3 : Int32} {x4 : Int32} {x5 : Int32} {x6 : Int32} {x7 : Int32} {x8 : Int32} {x9 : Int32} {x10 : Int32} {w5 : Int64} {z : ow_MS} {Q : (Int64 × ow_MS) → Prop} (H : Tt (fun K k => qm_X13_minor_9 K (q_X13_minor K k) x1 x2 x3 x4 x5 x6 x7 x8 x9 x10 w5 z) Q) : Tt (fun K k => q_X13_minor K k 9 x1 x2 x3 x4 x5 x6 x7 x8 x9 x10 w5 z) Q := w_un (fun _ _ => rfl) H
theorem u_X13_minor_10 {x1 : Int32} {x2 : Int32} {x3 : Int32} {x4 : Int32} {x5 : Int32} {x6 : Int32} {x7 : Int32} {x8 : Int32} {x9 : Int32} {x10 : Int32} {w5 : Int64} {z : ow_MS} {Q : (Int64 × ow_MS) → Prop} (H : Tt (fun K k => qm_X13_minor_10 K (q_X13_minor K k) x1 x2 x3 x4 x5 x6 x7 x8 x9 x10 w5 z) Q) : Tt (fun K k => q_X13_minor K k 10 x1 x2 x3 x4 x5 x6 x7 x8 x9 x10 w5 z) Q := w_un (fun _ _ => rfl) H
theorem u_X13_minor_8 {x1 : Int32} {x2 : Int32} {x3 : Int32} {x4 : Int32} {x5 : Int32} {x6 : Int32} {x7 : Int32} {x8 : Int32} {x9 : Int32} {x10 : Int32} {w5 : Int64} {z : ow_MS} {Q : (Int64 × ow_MS) → Prop} (H : Tt (fun K k => qm_X13_minor_8 K (q_X13_minor K k) x1 x2 x3 x4 x5 x6 x7 x8 x9 x10 w5 z) Q) : Tt (fun K k => q_X13_minor K k 8 x1 x2 x3 x4 x5 x6 x7 x8 x9 x10 w5 z) Q := w_un (fun _ _ => rfl) H
theorem u_X13_minor_6 {x1 : Int32} {x2 : Int32} {x3 : Int32} {x4 : Int32} {x5 : Int32} {x6 : Int32} {x7 : Int32} {x8 : Int32} {x9 : Int32} {x10 : Int32} {w5 : Int64} {z : ow_MS} {Q : (Int64 × ow_MS) → Prop} (H : Tt (fun K k => qm_X13_minor_6 K (q_X13_minor K k) x1 x2 x3 x4 x5 x6 x7 x8 x9 x10 w5 z) Q) : Tt (fun K k => q_X13_minor K k 6 x1 x2 x3 x4 x5 x6 x7 x8 x9 x10 w5 z) Q := w_un (fun _ _ => rfl) H
theorem u_X13_minor_7 {x1 : Int32} {x2 : Int32} {x3 : Int32} {x4 : Int32} {x5 : Int32} {x6 : Int32} {x7 : Int32} {x8 : Int32} {x9 : Int32} {x10 : Int32} {w5 : Int64} {z : ow_MS} {Q : (Int64 × ow_MS) → Prop} (H : Tt (fun K k => qm_X13_minor_7 K (q_X13_minor K k) x1 x2 x3 x4 x5 x6 x7 x8 x9 x10 w5 z) Q) : Tt (fun K k => q_X13_minor K k 7 x1 x2 x3 x4 x5 x6 x7 x8 x9 x10 w5 z) Q := w_un (fun _ _ => rfl) H
theorem u_X13_minor_1 {x1 : Int32} {x2 : Int32} {x3 : Int32} {x4 : Int32} {x5 : Int32} {x6 : Int32} {x7 : Int32} {x8 : Int32} {x9 : Int32} {x10 : Int32} {w5 : Int64} {z : ow_MS} {Q : (Int64 × ow_MS) → Prop} (H : Tt (fun K k => qm_X13_minor_1 K (q_X13_minor K k) x1 x2 x3 x4 x5 x6 x7 x8 x9 x10 w5 z) Q) : Tt (fun K k => q_X13_minor K k 1 x1 x2 x3 x4 x5 x6 x7 x8 x9 x10 w5 z) Q := w_un (fun _ _ => rfl) H
theorem u_X13_minor_4 {x1 : Int32} {x2 : Int32} {x3 : Int32} {x4 : Int32} {x5 : Int32} {x6 : Int32} {x7 : Int32} {x8 : Int32} {x9 : Int32} {x10 : Int32} {w5 : Int64} {z : ow_MS} {Q : (Int64 × ow_MS) → Prop} (H : Tt (fun K k => qm_X13_minor_4 K (q_X13_minor K k) x1 x2 x3 x4 x5 x6 x7 x8 x9 x10 w5 z) Q) : Tt (fun K k => q_X13_minor K k 4 x1 x2 x3 x4 x5 x6 x7 x8 x9 x10 w5 z) Q := w_un (fun _ _ => rfl) H
theorem u_X13_minor_2 {x1 : Int32} {x2 : Int32} {x3 : Int32} {x4 : Int32} {x5 : Int32} {x6 : Int32} {x7 : Int32} {x8 : Int32} {x9 : Int32} {x10 : Int32} {w5 : Int64} {z : ow_MS} {Q : (Int64 × ow_MS) → Prop} (H : Tt (fun K k => qm_X13_minor_2 K (q_X13_minor K k) x1 x2 x3 x4 x5 x6 x7 x8 x9 x10 w5 z) Q) : Tt (fun K k => q_X13_minor K k 2 x1 x2 x3 x4 x5 x6 x7 x8 x9 x10 w5 z) Q := w_un (fun _ _ => rfl) H
theorem u_X13_minor_3 {x1 : Int32} {x2 : Int32} {x3 : Int32} {x4 : Int32} {x5 : Int32} {x6 : Int32} {x7 : Int32} {x8 : Int32} {x9 : Int32} {x10 : Int32} {w5 : Int64} {z : ow_MS} {Q : (Int64 × ow_MS) → Prop} (H : Tt (fun K k => qm_X13_minor_3 K (q_X13_minor K k) x1 x2 x3 x4 x5 x6 x7 x8 x9 x10 w5 z) Q) : Tt (fun K k => q_X13_minor K k 3 x1 x2 x3 x4 x5 x6 x7 x8 x9 x10 w5 z) Q := w_un (fun _ _ => rfl) H
theorem e_X13_minor {x1 : Int32} {x2 : Int32} {x3 : Int32} {z : ow_MS} {Q : (Int64 × ow_MS) → Prop} (H : Tt (fun K k => q_X13_minor K k 0 x1 x2 x3 0 0 0 0 0 0 0 0 z) Q) : Te (fun K => qe_X13_minor K x1 x2 x3 z) Q := w_te H
theorem u_X13_minor_0 {x1 : Int32} {x2 : Int32} {x3 : Int32} {x4 : Int32} {x5 : Int32} {x6 : Int32} {x7 : Int32} {x8 : Int32} {x9 : Int32} {x10 : Int32} {w5 : Int64} {z : ow_MS} {Q : (Int64 × ow_MS) → Prop} (H : Tt (fun K k => qm_X13_minor_0 K (q_X13_minor K k) x1 x2 x3 x4 x5 x6 x7 x8 x9 x10 w5 z) Q) : Tt (fun K k => q_X13_minor K k 0 x1 x2 x3 x4 x5 x6 x7 x8 x9 x10 w5 z) Q := w_un (fun _ _ => rfl) H
theorem tp_minor {m q c a k : Nat} {rs cs : Int32} (hm : m ≤ 12) (hq : q ≤ 18) (hc : c ≤ 12) (ha : a ≤ 18) (hk1 : 1 ≤ k) (hk : k ≤ 12) (hL : lvI z m q c a) : Te (fun K => qe_X13_minor K rs cs (nI k) z) (fun r => fr (fun g => g = 72) z r.2) := by
  let Q : Int64 × ow_MS → Prop := fun r => fr (fun g => g = 72) z r.2
  have lF : ∀ {y : ow_MS}, fr (fun g => g = 72) z y → lvI y m q c a := fun hf => ⟨by rw [(hf 70 (by omega)).1]; exact hL.1, by rw [(hf 71 (by omega)).1]; exact hL.2.1, fun i hi => inR_fr hf (by omega) (hL.2.2.1 i hi), fun i hi => inR_fr hf (by omega) (hL.2.2.2 i hi)⟩
  have c5 : ∀ (d t : Nat) (x4 : Int32) (w5 : Int64) (y : ow_MS), t + 1 + d = k → w5 ≠ 0 → fr (fun g => g = 72) z y → Tt (fun K i => q_X13_minor K i 5 rs cs (nI k) x4 0 0 (nI t) 0 0 0 w5 y) Q := by
    intro d
    induction d with
    | zero =>
      intro t x4 w5 y ht hw hf
      refine u_X13_minor_5 ?_; unfold qm_X13_minor_5
      rw [nI_1, show nI k - 1 = nI (k - 1) from pk_sub (b := 1) hk1, show (14 : Int32) * nI (k - 1) = nI (14 * (k - 1)) from pk_mul 14 _]
      exact w_leT (by omega) (by omega) (w_rdJ ml72 rfl (by omega) rfl (w_some hf))
    | succ d ih =>
      intro t x4 w5 y ht hw hf
      have c9 : ∀ (d2 r : Nat) (x8 : Int32) (y : ow_MS), r + d2 = k → t < r → fr (fun g => g = 72) z y → y.2.2 72 (13 * t + t) ≠ 0 → Tt (fun K i => q_X13_minor K i 9 rs cs (nI k) x4 0 0 (nI t) x8 (nI r) 0 w5 y) Q := by
        intro d2
        induction d2 with
        | zero =>
          intro r x8 y hr htr hf hp
          refine u_X13_minor_9 ?_; unfold qm_X13_minor_9
          rw [nI_1, show (14 : Int32) * nI t = nI (14 * t) from pk_mul 14 _]
          exact w_leT (by omega) (by omega) (w_rdJ ml72 rfl (by omega) rfl (ih (t + 1) x4 _ y (by omega) (by rw [show 14 * t = 13 * t + t by omega]; exact hp) hf))
        | succ d2 ih2 =>
          intro r x8 y hr htr hf hp
          have c10 : ∀ (d3 s : Nat) (y : ow_MS), s + d3 = k → t < s → fr (fun g => g = 72) z y → y.2.2 72 (13 * t + t) ≠ 0 → Tt (fun K i => q_X13_minor K i 10 rs cs (nI k) x4 0 0 (nI t) x8 (nI r) (nI s) w5 y) Q := by
            intro d3
            induction d3 with
            | zero =>
              intro s y hs hts hf hp
              refine u_X13_minor_10 ?_; unfold qm_X13_minor_10
              rw [show nI r + 1 = nI (r + 1) from nI_1 _]
              exact w_leT (by omega) (by omega) (ih2 (r + 1) x8 y (by omega) (by omega) hf hp)
            | succ d3 ih3 =>
              intro s y hs hts hf hp
              refine u_X13_minor_10 ?_; unfold qm_X13_minor_10
              rw [show nI s + 1 = nI (s + 1) from nI_1 _, sq_ix, sq_ix, sq_ix, sq_ix]
              refine w_leF (by omega) (by omega) (w_rdJ ml72 rfl (by omega) rfl (w_rdJ ml72 rfl (by omega) rfl (w_rdJ ml72 rfl (by omega) rfl (w_rdJ ml72 rfl (by omega) rfl (w_nzJ hw (w_wrJ ml72 rfl (by omega) (ih3 (s + 1) _ (by omega) (by omega) (fr_J2 hf rfl) ?_)))))))
              rw [usJ_ne (by omega)]
              exact hp
          refine u_X13_minor_9 ?_; unfold qm_X13_minor_9
          rw [show nI t + 1 = nI (t + 1) from nI_1 _]
          exact w_leF (by omega) (by omega) (c10 (k - (t + 1)) (t + 1) y (by omega) (by omega) hf hp)
      have c8 : ∀ (d2 j p : Nat) (y : ow_MS), j + d2 = k → p < k → fr (fun g => g = 72) z y → (j ≤ t → y.2.2 72 (13 * p + t) ≠ 0) → (t < j → y.2.2 72 (13 * t + t) ≠ 0) → Tt (fun K i => q_X13_minor K i 8 rs cs (nI k) x4 0 0 (nI t) (nI p) (nI j) 0 w5 y) Q := by
        intro d2
        induction d2 with
        | zero =>
          intro j p y hj hp hf h1 h2
          refine u_X13_minor_8 ?_; unfold qm_X13_minor_8
          rw [show nI t + 1 = nI (t + 1) from nI_1 _]
          exact w_leT (by omega) (by omega) (c9 (k - (t + 1)) (t + 1) _ y (by omega) (by omega) hf (h2 (by omega)))
        | succ d2 ih2 =>
          intro j p y hj hp hf h1 h2
          refine u_X13_minor_8 ?_; unfold qm_X13_minor_8
          rw [show nI j + 1 = nI (j + 1) from nI_1 _, sq_ix, sq_ix]
          refine w_leF (by omega) (by omega) (w_rdJ ml72 rfl (by omega) rfl (w_rdJ ml72 rfl (by omega) rfl (w_wrJ ml72 rfl (by omega) (w_wrJ ml72 rfl (by omega) (ih2 (j + 1) p _ (by omega) hp (fr_J2 (fr_J2 hf rfl) rfl) (fun h9 => ?_) (fun h9 => ?_))))))
          · rw [usJ_ne (by omega), usJ_ne (by omega)]
            exact h1 (by omega)
          · by_cases hjt : j = t
            · rw [hjt, usJ_at]
              exact h1 (by omega)
            · rw [usJ_ne (by omega), usJ_ne (by omega)]
              exact h2 (by omega)
      have c6 : ∀ (d2 p : Nat), p + d2 = k → t ≤ p → Tt (fun K i => q_X13_minor K i 6 rs cs (nI k) x4 0 0 (nI t) (nI p) 0 0 w5 y) Q := by
        intro d2
        induction d2 with
        | zero =>
          intro p hp htp
          refine u_X13_minor_6 ?_; unfold qm_X13_minor_6
          refine w_leT (by omega) (by omega) ?_
          refine u_X13_minor_7 ?_; unfold qm_X13_minor_7
          exact w_ifT (by rw [show p = k by omega]) (w_some hf)
        | succ d2 ih2 =>
          intro p hp htp
          refine u_X13_minor_6 ?_; unfold qm_X13_minor_6
          rw [nI_1, sq_ix]
          refine w_leF (by omega) (by omega) (w_rdJ ml72 rfl (by omega) rfl (w_if (fun _ => ih2 (p + 1) (by omega) (by omega)) (fun h9 => ?_)))
          refine u_X13_minor_7 ?_; unfold qm_X13_minor_7
          exact w_ifF (fun e => absurd ((nI_eq (by omega) (by omega)).mp e) (by omega)) (c8 k 0 p y (by omega) (by omega) hf (fun _ e => h9 (cmp_0.mpr e)) (fun h8 => absurd h8 (by omega)))
      refine u_X13_minor_5 ?_; unfold qm_X13_minor_5
      rw [nI_1]
      exact w_leF (by omega) (by omega) (c6 (k - t) t (by omega) (Nat.le_refl _))
  have c1 : ∀ (d r i : Nat) (y : ow_MS), r + d = m → i ≤ r → fr (fun g => g = 72) z y → Tt (fun K t => q_X13_minor K t 1 rs cs (nI k) (nI i) (nI r) 0 0 0 0 0 0 y) Q := by
    intro d
    induction d with
    | zero =>
      intro r i y hr hi hf
      refine u_X13_minor_1 ?_; unfold qm_X13_minor_1
      exact w_rdF (lF hf).1 (w_leT (by omega) (by omega) (c5 (k - 1) 0 _ 1 y (by omega) (by decide) hf))
    | succ d ih =>
      intro r i y hr hi hf
      have c4 : ∀ (i : Nat) (y : ow_MS), i ≤ r + 1 → fr (fun g => g = 72) z y → Tt (fun K t => q_X13_minor K t 4 rs cs (nI k) (nI i) (nI r) 0 0 0 0 0 0 y) Q := by
        intro i y hi hf
        refine u_X13_minor_4 ?_; unfold qm_X13_minor_4
        rw [nI_1]
        exact ih (r + 1) i y (by omega) (by omega) hf
      have c2 : ∀ (d s j : Nat) (y : ow_MS), s + d = q → j ≤ s → fr (fun g => g = 72) z y → Tt (fun K t => q_X13_minor K t 2 rs cs (nI k) (nI i) (nI r) (nI j) (nI s) 0 0 0 0 y) Q := by
        intro d
        induction d with
        | zero =>
          intro s j y hs hj hf
          refine u_X13_minor_2 ?_; unfold qm_X13_minor_2
          rw [show nI i + 1 = nI (i + 1) from nI_1 _]
          exact w_rdF (lF hf).2.1 (w_leT (by omega) (by omega) (c4 (i + 1) y (by omega) hf))
        | succ d ih2 =>
          intro s j y hs hj hf
          obtain ⟨r0, hr0, er⟩ := (lF hf).2.2.1 r (by omega)
          obtain ⟨s0, hs0, es⟩ := (lF hf).2.2.2 s (by omega)
          refine u_X13_minor_2 ?_; unfold qm_X13_minor_2
          rw [show nI j + 1 = nI (j + 1) from nI_1 _, sq_ix]
          refine w_rdF (lF hf).2.1 (w_leF (by omega) (by omega) (w_if (fun _ => w_rdI ml68 rfl (by omega) er (w_rdI ml69 rfl (by omega) es (w_rdJ (i := 24 * r0 + s0) ml64 gr_ix (by omega) rfl (w_wrJ ml72 rfl (by omega) ?_)))) (fun _ => ?_)))
          · refine u_X13_minor_3 ?_; unfold qm_X13_minor_3
            rw [show nI s + 1 = nI (s + 1) from nI_1 _]
            exact ih2 (s + 1) (j + 1) _ (by omega) (by omega) (fr_J2 hf rfl)
          · refine u_X13_minor_3 ?_; unfold qm_X13_minor_3
            rw [show nI s + 1 = nI (s + 1) from nI_1 _]
            exact ih2 (s + 1) j _ (by omega) (by omega) hf
      refine u_X13_minor_1 ?_; unfold qm_X13_minor_1
      exact w_rdF (lF hf).1 (w_leF (by omega) (by omega) (w_if (fun _ => c2 q 0 0 y (by omega) (Nat.le_refl _) hf) (fun _ => c4 i y (by omega) hf)))
  refine e_X13_minor ?_
  refine u_X13_minor_0 ?_; unfold qm_X13_minor_0
  exact c1 m 0 0 z (by omega) (Nat.le_refl _) fr_rf
theorem u_X13_divisor_1 {x1 : Int32} {x6 : Int32} {x7 : Int32} {w2 : Int64} {w4 : Int64} {z : ow_MS} {Q : (Int64 × ow_MS) → Prop} (H : Tt (fun K k => qm_X13_divisor_1 K (q_X13_divisor K k) x1 x6 x7 w2 w4 z) Q) : Tt (fun K k => q_X13_divisor K k 1 x1 x6 x7 w2 w4 z) Q := w_un (fun _ _ => rfl) H
theorem u_X13_divisor_4 {x1 : Int32} {x6 : Int32} {x7 : Int32} {w2 : Int64} {w4 : Int64} {z : ow_MS} {Q : (Int64 × ow_MS) → Prop} (H : Tt (fun K k => qm_X13_divisor_4 K (q_X13_divisor K k) x1 x6 x7 w2 w4 z) Q) : Tt (fun K k => q_X13_divisor K k 4 x1 x6 x7 w2 w4 z) Q := w_un (fun _ _ => rfl) H
theorem u_X13_divisor_2 {x1 : Int32} {x6 : Int32} {x7 : Int32} {w2 : Int64} {w4 : Int64} {z : ow_MS} {Q : (Int64 × ow_MS) → Prop} (H : Tt (fun K k => qm_X13_divisor_2 K (q_X13_divisor K k) x1 x6 x7 w2 w4 z) Q) : Tt (fun K k => q_X13_divisor K k 2 x1 x6 x7 w2 w4 z) Q := w_un (fun _ _ => rfl) H
theorem u_X13_divisor_3 {x1 : Int32} {x6 : Int32} {x7 : Int32} {w2 : Int64} {w4 : Int64} {z : ow_MS} {Q : (Int64 × ow_MS) → Prop} (H : Tt (fun K k => qm_X13_divisor_3 K (q_X13_divisor K k) x1 x6 x7 w2 w4 z) Q) : Tt (fun K k => q_X13_divisor K k 3 x1 x6 x7 w2 w4 z) Q := w_un (fun _ _ => rfl) H
theorem e_X13_divisor {x1 : Int32} {w2 : Int64} {z : ow_MS} {Q : (Int64 × ow_MS) → Prop} (H : Tt (fun K k => q_X13_divisor K k 0 x1 0 0 w2 0 z) Q) : Te (fun K => qe_X13_divisor K x1 w2 z) Q := w_te H
theorem u_X13_divisor_0 {x1 : Int32} {x6 : Int32} {x7 : Int32} {w2 : Int64} {w4 : Int64} {z : ow_MS} {Q : (Int64 × ow_MS) → Prop} (H : Tt (fun K k => qm_X13_divisor_0 K (q_X13_divisor K k) x1 x6 x7 w2 w4 z) Q) : Tt (fun K k => q_X13_divisor K k 0 x1 x6 x7 w2 w4 z) Q := w_un (fun _ _ => rfl) H
theorem tp_divisor {m q c a k : Nat} {w : Int64} (hm : m ≤ 12) (hq : q ≤ 18) (hc : c ≤ 12) (ha : a ≤ 18) (hk1 : 1 ≤ k) (hk2 : k < 2 ^ 31) (hL : lvI z m q c a) : Te (fun K => qe_X13_divisor K (nI k) w z) (fun r => fr (fun g => g = 72) z r.2 ∧ (12 < k → r.1 = 0)) := by
  let Q : Int64 × ow_MS → Prop := fun r => fr (fun g => g = 72) z r.2 ∧ (12 < k → r.1 = 0)
  have lF : ∀ {y : ow_MS}, fr (fun g => g = 72) z y → lvI y m q c a := fun hf => ⟨by rw [(hf 70 (by omega)).1]; exact hL.1, by rw [(hf 71 (by omega)).1]; exact hL.2.1, fun i hi => inR_fr hf (by omega) (hL.2.2.1 i hi), fun i hi => inR_fr hf (by omega) (hL.2.2.2 i hi)⟩
  have hm2 : 2 ^ m ≤ 4096 := two_mono (b := 12) hm
  have hq2 : 2 ^ q ≤ 262144 := two_mono (b := 18) hq
  have c1 : ∀ (d r : Nat) (w4 : Int64) (y : ow_MS), r + d = 2 ^ m → (12 < k → w4 = 0) → fr (fun g => g = 72) z y → Tt (fun K t => q_X13_divisor K t 1 (nI k) (nI r) 0 w w4 y) Q := by
    intro d
    induction d with
    | zero =>
      intro r w4 y hr hw hf
      refine u_X13_divisor_1 ?_; unfold qm_X13_divisor_1
      refine w_rdF (lF hf).1 ?_
      rw [shl1 (by omega)]
      exact w_leT (by omega) (by omega) (w_some ⟨hf, hw⟩)
    | succ d ih =>
      intro r w4 y hr hw hf
      have hpr := pc_le (c := 12) (k := r) (by omega)
      have c4 : ∀ (x7 : Int32) (w4 : Int64) (y : ow_MS), (12 < k → w4 = 0) → fr (fun g => g = 72) z y → Tt (fun K t => q_X13_divisor K t 4 (nI k) (nI r) x7 w w4 y) Q := by
        intro x7 w4 y hw hf
        refine u_X13_divisor_4 ?_; unfold qm_X13_divisor_4
        rw [nI_1]
        exact ih (r + 1) w4 y (by omega) hw hf
      have c2 : ∀ (d s : Nat) (w4 : Int64) (y : ow_MS), s + d = 2 ^ q → (12 < k → w4 = 0) → fr (fun g => g = 72) z y → Tt (fun K t => q_X13_divisor K t 2 (nI k) (nI r) (nI s) w w4 y) Q := by
        intro d
        induction d with
        | zero =>
          intro s w4 y hs hw hf
          refine u_X13_divisor_2 ?_; unfold qm_X13_divisor_2
          refine w_rdF (lF hf).2.1 ?_
          rw [shl1 (by omega)]
          exact w_leT (by omega) (by omega) (c4 _ _ y hw hf)
        | succ d ih2 =>
          intro s w4 y hs hw hf
          refine u_X13_divisor_2 ?_; unfold qm_X13_divisor_2
          refine w_rdF (lF hf).2.1 ?_
          rw [shl1 (by omega), bc_pc (by omega)]
          refine w_leF (by omega) (by omega) (w_if (fun _ => c4 _ _ y hw hf) (fun _ => w_eqN (by omega) hk2 (fun hpk => w_if (fun _ => w_cs1 (tp_minor hm hq hc ha hk1 (by omega) (lF hf)) (fun a1 y1 f1 => w_cs1 tp_gcd (fun a2 y2 e2 => ?_))) (fun _ => ?_)) (fun _ => c4 _ _ y hw hf)))
          · have e2 : y2 = y1 := e2
            subst e2
            refine u_X13_divisor_3 ?_; unfold qm_X13_divisor_3
            rw [nI_1]
            exact ih2 (s + 1) _ y2 (by omega) (fun h9 => absurd h9 (by omega)) (fr_tr hf f1)
          · refine u_X13_divisor_3 ?_; unfold qm_X13_divisor_3
            rw [nI_1]
            exact ih2 (s + 1) _ y (by omega) hw hf
      refine u_X13_divisor_1 ?_; unfold qm_X13_divisor_1
      refine w_rdF (lF hf).1 ?_
      rw [shl1 (by omega)]
      exact w_leF (by omega) (by omega) (w_if (fun _ => w_some ⟨hf, hw⟩) (fun _ => c2 (2 ^ q) 0 w4 y (by omega) hw hf))
  refine e_X13_divisor ?_
  refine u_X13_divisor_0 ?_; unfold qm_X13_divisor_0
  exact c1 (2 ^ m) 0 0 z (by omega) (fun _ => rfl) fr_rf
abbrev cvH (g : Nat) : Prop := 58 ≤ g ∧ g ≤ 64 ∨ 66 ≤ g ∧ g ≤ 72
theorem e_X13_makeCover {r1 : Nat} {z : ow_MS} {Q : ow_MS → Prop} (H : Tt (fun K k => q_X13_makeCover K k 0 0 0 0 0 0 0 0 0 0 r1 z) Q) : Te (fun K => qe_X13_makeCover K r1 z) Q := w_te H
theorem u_X13_makeCover_0 {x2 : Int32} {x3 : Int32} {x4 : Int32} {x6 : Int32} {x7 : Int32} {x9 : Int32} {w4 : Int64} {w5 : Int64} {w7 : Int64} {r1 : Nat} {z : ow_MS} {Q : ow_MS → Prop} (H : Tt (fun K k => qm_X13_makeCover_0 K (q_X13_makeCover K k) x2 x3 x4 x6 x7 x9 w4 w5 w7 r1 z) Q) : Tt (fun K k => q_X13_makeCover K k 0 x2 x3 x4 x6 x7 x9 w4 w5 w7 r1 z) Q := w_un (fun _ _ => rfl) H
theorem u_X13_makeCover_9 {x2 : Int32} {x3 : Int32} {x4 : Int32} {x6 : Int32} {x7 : Int32} {x9 : Int32} {w4 : Int64} {w5 : Int64} {w7 : Int64} {r1 : Nat} {z : ow_MS} {Q : ow_MS → Prop} (H : Tt (fun K k => qm_X13_makeCover_9 K (q_X13_makeCover K k) x2 x3 x4 x6 x7 x9 w4 w5 w7 r1 z) Q) : Tt (fun K k => q_X13_makeCover K k 9 x2 x3 x4 x6 x7 x9 w4 w5 w7 r1 z) Q := w_un (fun _ _ => rfl) H
theorem u_X13_makeCover_7 {x2 : Int32} {x3 : Int32} {x4 : Int32} {x6 : Int32} {x7 : Int32} {x9 : Int32} {w4 : Int64} {w5 : Int64} {w7 : Int64} {r1 : Nat} {z : ow_MS} {Q : ow_MS → Prop} (H : Tt (fun K k => qm_X13_makeCover_7 K (q_X13_makeCover K k) x2 x3 x4 x6 x7 x9 w4 w5 w7 r1 z) Q) : Tt (fun K k => q_X13_makeCover K k 7 x2 x3 x4 x6 x7 x9 w4 w5 w7 r1 z) Q := w_un (fun _ _ => rfl) H
theorem u_X13_makeCover_8 {x2 : Int32} {x3 : Int32} {x4 : Int32} {x6 : Int32} {x7 : Int32} {x9 : Int32} {w4 : Int64} {w5 : Int64} {w7 : Int64} {r1 : Nat} {z : ow_MS} {Q : ow_MS → Prop} (H : Tt (fun K k => qm_X13_makeCover_8 K (q_X13_makeCover K k) x2 x3 x4 x6 x7 x9 w4 w5 w7 r1 z) Q) : Tt (fun K k => q_X13_makeCover K k 8 x2 x3 x4 x6 x7 x9 w4 w5 w7 r1 z) Q := w_un (fun _ _ => rfl) H
theorem u_X13_makeCover_6 {x2 : Int32} {x3 : Int32} {x4 : Int32} {x6 : Int32} {x7 : Int32} {x9 : Int32} {w4 : Int64} {w5 : Int64} {w7 : Int64} {r1 : Nat} {z : ow_MS} {Q : ow_MS → Prop} (H : Tt (fun K k => qm_X13_makeCover_6 K (q_X13_makeCover K k) x2 x3 x4 x6 x7 x9 w4 w5 w7 r1 z) Q) : Tt (fun K k => q_X13_makeCover K k 6 x2 x3 x4 x6 x7 x9 w4 w5 w7 r1 z) Q := w_un (fun _ _ => rfl) H
theorem u_X13_makeCover_3 {x2 : Int32} {x3 : Int32} {x4 : Int32} {x6 : Int32} {x7 : Int32} {x9 : Int32} {w4 : Int64} {w5 : Int64} {w7 : Int64} {r1 : Nat} {z : ow_MS} {Q : ow_MS → Prop} (H : Tt (fun K k => qm_X13_makeCover_3 K (q_X13_makeCover K k) x2 x3 x4 x6 x7 x9 w4 w5 w7 r1 z) Q) : Tt (fun K k => q_X13_makeCover K k 3 x2 x3 x4 x6 x7 x9 w4 w5 w7 r1 z) Q := w_un (fun _ _ => rfl) H
theorem u_X13_makeCover_4 {x2 : Int32} {x3 : Int32} {x4 : Int32} {x6 : Int32} {x7 : Int32} {x9 : Int32} {w4 : Int64} {w5 : Int64} {w7 : Int64} {r1 : Nat} {z : ow_MS} {Q : ow_MS → Prop} (H : Tt (fun K k => qm_X13_makeCover_4 K (q_X13_makeCover K k) x2 x3 x4 x6 x7 x9 w4 w5 w7 r1 z) Q) : Tt (fun K k => q_X13_makeCover K k 4 x2 x3 x4 x6 x7 x9 w4 w5 w7 r1 z) Q := w_un (fun _ _ => rfl) H
theorem u_X13_makeCover_5 {x2 : Int32} {x3 : Int32} {x4 : Int32} {x6 : Int32} {x7 : Int32} {x9 : Int32} {w4 : Int64} {w5 : Int64} {w7 : Int64} {r1 : Nat} {z : ow_MS} {Q : ow_MS → Prop} (H : Tt (fun K k => qm_X13_makeCover_5 K (q_X13_makeCover K k) x2 x3 x4 x6 x7 x9 w4 w5 w7 r1 z) Q) : Tt (fun K k => q_X13_makeCover K k 5 x2 x3 x4 x6 x7 x9 w4 w5 w7 r1 z) Q := w_un (fun _ _ => rfl) H
theorem u_X13_makeCover_2 {x2 : Int32} {x3 : Int32} {x4 : Int32} {x6 : Int32} {x7 : Int32} {x9 : Int32} {w4 : Int64} {w5 : Int64} {w7 : Int64} {r1 : Nat} {z : ow_MS} {Q : ow_MS → Prop} (H : Tt (fun K k => qm_X13_makeCover_2 K (q_X13_makeCover K k) x2 x3 x4 x6 x7 x9 w4 w5 w7 r1 z) Q) : Tt (fun K k => q_X13_makeCover K k 2 x2 x3 x4 x6 x7 x9 w4 w5 w7 r1 z) Q := w_un (fun _ _ => rfl) H
theorem u_X13_makeCover_1 {x2 : Int32} {x3 : Int32} {x4 : Int32} {x6 : Int32} {x7 : Int32} {x9 : Int32} {w4 : Int64} {w5 : Int64} {w7 : Int64} {r1 : Nat} {z : ow_MS} {Q : ow_MS → Prop} (H : Tt (fun K k => qm_X13_makeCover_1 K (q_X13_makeCover K k) x2 x3 x4 x6 x7 x9 w4 w5 w7 r1 z) Q) : Tt (fun K k => q_X13_makeCover K k 1 x2 x3 x4 x6 x7 x9 w4 w5 w7 r1 z) Q := w_un (fun _ _ => rfl) H
theorem tp_makeCover {n : Nat} {A : rn_L} {sg : Nat → Bool} (hn : mw_net n) (hA : oNet z n A sg) : Te (fun K => qe_X13_makeCover K n z) (fun z1 => (∃ k, k ≤ 40 ∧ z1.1 67 = nI k) ∧ fr cvH z z1) := by
  obtain ⟨c, hok, hc⟩ := hA.2.2.1
  have hV := okF_len hok
  have hC := hA.2.2.2
  have hmn := net_mod hn
  let Q : ow_MS → Prop := fun z1 => (∃ k, k ≤ 40 ∧ z1.1 67 = nI k) ∧ fr cvH z z1
  refine e_X13_makeCover ?_
  refine u_X13_makeCover_0 ?_; unfold qm_X13_makeCover_0
  refine w_cs0 (tp_arcs hn hA hok) (fun z1 ⟨⟨a, ha, h58, hR⟩, f1⟩ => ?_)
  have hO1 : oNet z1 n A sg := oNet_fr f1 (fun g hg => by unfold arcH at hg; omega) hA
  refine w_rdF hO1.1.V (w_nzI (by decide) ?_)
  rw [hV, show nI (2 * c) / 2 = nI c from by rw [show nI (2 * c) / 2 = nI (2 * c / 2) from pk_div (d := 2) (by omega) (by omega) (by omega)]; congr 1; omega]
  have f0 : fr cvH z z1 := fr_mono (fun g hg => by unfold arcH at hg; unfold cvH; omega) f1
  have ha18 : a ≤ 18 := by omega
  have c9 : ∀ (d i cv : Nat) (x3 x6 : Int32) (w4 w7 : Int64) (y : ow_MS), cv ≤ 12 + d ∨ cv + d ≤ 31 → i + d = a → cv + d ≤ 31 → fr cvH z y → y.1 58 = nI a → y.1 67 = nI cv → Tt (fun K t => q_X13_makeCover K t 9 (nI c) x3 0 x6 0 (nI i) w4 0 w7 n y) Q := by
    intro d
    induction d with
    | zero =>
      intro i cv x3 x6 w4 w7 y _ hi hcv hf h58 h67
      refine u_X13_makeCover_9 ?_; unfold qm_X13_makeCover_9
      refine w_rdF h58 (w_ifT ?_ (w_some ⟨⟨cv, by omega, h67⟩, hf⟩))
      rw [nI_iI, nI_iI]
      show iI (a : Int) - iI 1 ≤ iI (i : Int)
      rw [iI_sub, iI_le (by omega) (by omega) (by omega) (by omega)]
      omega
    | succ d ih =>
      intro i cv x3 x6 w4 w7 y _ hi hcv hf h58 h67
      refine u_X13_makeCover_9 ?_; unfold qm_X13_makeCover_9
      refine w_rdF h58 (w_if (fun _ => w_some ⟨⟨cv, by omega, h67⟩, hf⟩) (fun _ => w_rdF h67 (w_wrJ ml66 rfl (by omega) (w_rdF (x := nI cv) h67 (w_wrF ?_)))))
      rw [nI_1]
      exact ih (i + 1) (cv + 1) x3 x6 w4 w7 _ (by omega) (by omega) (by omega) (fr_F2 (fr_J2 hf (by unfold cvH; omega)) (by unfold cvH; omega)) (rf_ot (by omega) h58) (po_usF_at.trans (nI_1 cv))
  have c7 : ∀ (d r cv t m q : Nat) (w4 w7 : Int64) (y : ow_MS), r + d = 12 → t ≤ c → cv ≤ r → w4 ≠ 0 → (12 < r + 1 → w7 = 0) → m ≤ 12 → q ≤ 18 → lvI y m q c a → fr cvH z y → y.1 58 = nI a → y.1 67 = nI cv → Tt (fun K i => q_X13_makeCover K i 7 (nI c) (nI t) 0 (nI r) 0 0 w4 0 w7 n y) Q := by
    intro d
    induction d with
    | zero =>
      intro r cv t m q w4 w7 y hr htc hcv hw4 hw7 hm hq hL hf h58 h67
      refine u_X13_makeCover_7 ?_; unfold qm_X13_makeCover_7
      rw [nI_add]
      refine w_ifT (cmp_0.mpr (hw7 (by omega))) ?_
      rcases Nat.lt_or_ge (t + r) a with h9 | h9
      · exact c9 (a - (t + r)) (t + r) cv _ _ _ _ y (by omega) (by omega) (by omega) hf h58 h67
      · refine u_X13_makeCover_9 ?_; unfold qm_X13_makeCover_9
        refine w_rdF h58 (w_ifT ?_ (w_some ⟨⟨cv, by omega, h67⟩, hf⟩))
        rw [nI_iI, nI_iI]
        show iI (a : Int) - iI 1 ≤ iI ((t + r : Nat) : Int)
        rw [iI_sub, iI_le (by omega) (by omega) (by omega) (by omega)]
        omega
    | succ d ih =>
      intro r cv t m q w4 w7 y hr htc hcv hw4 hw7 hm hq hL hf h58 h67
      have c8 : ∀ (cv : Nat) (y : ow_MS), cv ≤ r + 1 → w7 ≠ 0 → lvI y m q c a → fr cvH z y → y.1 58 = nI a → y.1 67 = nI cv → Tt (fun K i => q_X13_makeCover K i 8 (nI c) (nI t) 0 (nI (r + 1)) 0 0 w4 0 w7 n y) Q := by
        intro cv y hcv hw hL hf h58 h67
        refine u_X13_makeCover_8 ?_; unfold qm_X13_makeCover_8
        rw [nI_1]
        refine w_cs1 (tp_divisor (k := r + 1 + 1) (w := w7) hm hq hc ha18 (by omega) (by omega) hL) (fun a1 y1 ⟨f2, h0⟩ => ?_)
        exact ih (r + 1) cv t m q w7 a1 y1 (by omega) htc hcv hw (fun h9 => h0 (by omega)) hm hq ⟨by rw [(f2 70 (by omega)).1]; exact hL.1, by rw [(f2 71 (by omega)).1]; exact hL.2.1, fun i hi => inR_fr f2 (by omega) (hL.2.2.1 i hi), fun i hi => inR_fr f2 (by omega) (hL.2.2.2 i hi)⟩ (fr_tr hf (fr_mono (fun g hg => by unfold cvH; omega) f2)) (by rw [(f2 58 (by omega)).1]; exact h58) (by rw [(f2 67 (by omega)).1]; exact h67)
      refine u_X13_makeCover_7 ?_; unfold qm_X13_makeCover_7
      rw [nI_add, nI_1]
      refine w_if (fun _ => ?_) (fun h9 => w_if (fun _ => c8 cv y (by omega) (fun e => h9 (cmp_0.mpr e)) hL hf h58 h67) (fun _ => w_rdF h67 (w_nzJ hw4 (w_wrJ ml66 rfl (by omega) (w_rdF (x := nI cv) h67 (w_wrF (c8 (cv + 1) _ (by omega) (fun e => h9 (cmp_0.mpr e)) ⟨rf_ot (by omega) hL.1, rf_ot (by omega) hL.2.1, hL.2.2⟩ (fr_F2 (fr_J2 hf (by unfold cvH; omega)) (by unfold cvH; omega)) (rf_ot (by omega) h58) (po_usF_at.trans (nI_1 cv)))))))))
      rcases Nat.lt_or_ge (t + r) a with h8 | h8
      · exact c9 (a - (t + r)) (t + r) cv _ _ _ _ y (by omega) (by omega) (by omega) hf h58 h67
      · refine u_X13_makeCover_9 ?_; unfold qm_X13_makeCover_9
        refine w_rdF h58 (w_ifT ?_ (w_some ⟨⟨cv, by omega, h67⟩, hf⟩))
        rw [nI_iI, nI_iI]
        show iI (a : Int) - iI 1 ≤ iI ((t + r : Nat) : Int)
        rw [iI_sub, iI_le (by omega) (by omega) (by omega) (by omega)]
        omega
  have c6 : ∀ (t : Nat) (y : ow_MS), t ≤ c → t ≤ a → fr cvH z y → y.1 58 = nI a → Tt (fun K i => q_X13_makeCover K i 6 (nI c) (nI t) 0 0 0 0 0 0 0 n y) Q := by
    intro t y htc hta hf h58
    refine u_X13_makeCover_6 ?_; unfold qm_X13_makeCover_6
    refine w_cs0 (tp_leave htc hc hta ha18 h58) (fun y1 ⟨⟨m, q, hm, hq, hL⟩, f2⟩ => w_wrF ?_)
    have hL2 : lvI (usF y1 67 0) m q c a := ⟨rf_ot (by omega) hL.1, rf_ot (by omega) hL.2.1, hL.2.2⟩
    have h58' : (usF y1 67 0).1 58 = nI a := rf_ot (by omega) (by rw [(f2 58 (by omega)).1]; exact h58)
    have hf2 : fr cvH z (usF y1 67 0) := fr_F2 (fr_tr hf (fr_mono (fun g hg => by unfold cvH; omega) f2)) (by unfold cvH; omega)
    refine w_cs1 (tp_divisor (k := 1) (w := 1) (by omega) (by omega) hc ha18 (by omega) (by omega) hL2) (fun a1 y2 ⟨f3, _⟩ => ?_)
    exact c7 12 0 0 t m q 1 a1 y2 (by omega) htc (Nat.le_refl _) (by decide) (fun h9 => absurd h9 (by omega)) (by omega) (by omega) ⟨by rw [(f3 70 (by omega)).1]; exact hL2.1, by rw [(f3 71 (by omega)).1]; exact hL2.2.1, fun i hi => inR_fr f3 (by omega) (hL2.2.2.1 i hi), fun i hi => inR_fr f3 (by omega) (hL2.2.2.2 i hi)⟩ (fr_tr hf2 (fr_mono (fun g hg => by unfold cvH; omega) f3)) (by rw [(f3 58 (by omega)).1]; exact h58') (by rw [(f3 67 (by omega)).1]; exact po_usF_at)
  have c3 : ∀ (d t : Nat) (y : ow_MS), t + d = c → t ≤ a → fr cvH z y → y.1 58 = nI a → Tt (fun K i => q_X13_makeCover K i 3 (nI c) (nI t) 0 0 0 0 0 0 0 n y) Q := by
    intro d
    induction d with
    | zero =>
      intro t y ht hta hf h58
      refine u_X13_makeCover_3 ?_; unfold qm_X13_makeCover_3
      exact w_leT (by omega) (by omega) (c6 t y (by omega) hta hf h58)
    | succ d ih =>
      intro t y ht hta hf h58
      have c4 : ∀ (d2 i : Nat) (y : ow_MS), i + d2 = c → t < i → t < a → fr cvH z y → y.1 58 = nI a → Tt (fun K k => q_X13_makeCover K k 4 (nI c) (nI t) (nI i) 0 0 0 0 0 0 n y) Q := by
        intro d2
        induction d2 with
        | zero =>
          intro i y hi hti hta hf h58
          refine u_X13_makeCover_4 ?_; unfold qm_X13_makeCover_4
          rw [show nI t + 1 = nI (t + 1) from nI_1 _]
          exact w_leT (by omega) (by omega) (ih (t + 1) y (by omega) (by omega) hf h58)
        | succ d2 ih2 =>
          intro i y hi hti hta hf h58
          have c5 : ∀ (d3 j : Nat) (w5 : Int64) (y : ow_MS), j + d3 = a → fr cvH z y → y.1 58 = nI a → Tt (fun K k => q_X13_makeCover K k 5 (nI c) (nI t) (nI i) 0 (nI j) 0 0 w5 0 n y) Q := by
            intro d3
            induction d3 with
            | zero =>
              intro j w5 y hj hf h58
              refine u_X13_makeCover_5 ?_; unfold qm_X13_makeCover_5
              rw [show nI i + 1 = nI (i + 1) from nI_1 _]
              exact w_rdF h58 (w_leT (by omega) (by omega) (ih2 (i + 1) y (by omega) (by omega) hta hf h58))
            | succ d3 ih3 =>
              intro j w5 y hj hf h58
              refine u_X13_makeCover_5 ?_; unfold qm_X13_makeCover_5
              rw [show nI j + 1 = nI (j + 1) from nI_1 _, gr_ix, gr_ix]
              exact w_rdF h58 (w_leF (by omega) (by omega) (w_rdJ ml64 rfl (by omega) rfl (w_rdJ ml64 rfl (by omega) rfl (w_wrJ ml64 rfl (by omega) (ih3 (j + 1) w5 _ (by omega) (fr_J2 hf (by unfold cvH; omega)) h58)))))
          refine u_X13_makeCover_4 ?_; unfold qm_X13_makeCover_4
          rw [gr_ix, gr_ix]
          exact w_leF (by omega) (by omega) (w_rdJ ml64 rfl (by omega) rfl (w_rdJ ml64 rfl (by omega) rfl (c5 (a - t) t _ y (by omega) hf h58)))
      refine u_X13_makeCover_3 ?_; unfold qm_X13_makeCover_3
      refine w_leF (by omega) (by omega) (w_rdF h58 (w_le (by omega) (by omega) (fun _ => c6 t y (by omega) hta hf h58) (fun hta2 => w_cs1 (tp_unit (by omega) hc hta2 ha18 h58) (fun a1 y1 f2 => ?_))))
      have f2 : fr (fun g => g = 64) y y1 := f2
      have hf2 : fr cvH z y1 := fr_tr hf (fr_mono (fun g hg => by unfold cvH; omega) f2)
      have h58' : y1.1 58 = nI a := by rw [(f2 58 (by omega)).1]; exact h58
      rw [show nI t + 1 = nI (t + 1) from nI_1 _]
      exact w_if (fun _ => c6 t y1 (by omega) hta hf2 h58') (fun _ => c4 (c - (t + 1)) (t + 1) y1 (by omega) (by omega) hta2 hf2 h58')
  have c2 : ∀ (d x : Nat) (y : ow_MS), x + d = c → fr cvH z y → arcI y c a → Tt (fun K k => q_X13_makeCover K k 2 (nI c) (nI x) 0 0 0 0 0 0 0 n y) Q := by
    intro d
    induction d with
    | zero =>
      intro x y hx hf hI
      refine u_X13_makeCover_2 ?_; unfold qm_X13_makeCover_2
      exact w_leT (by omega) (by omega) (c3 c 0 y (by omega) (Nat.zero_le _) hf hI.1)
    | succ d ih =>
      intro x y hx hf hI
      obtain ⟨⟨i, hi, ei⟩, ⟨j, hj, ej⟩, ⟨k, hk, ek⟩⟩ := hI.2 x (by omega)
      refine u_X13_makeCover_2 ?_; unfold qm_X13_makeCover_2
      rw [nI_1]
      refine w_leF (by omega) (by omega) (w_rdI ml61 rfl (by omega) ei (w_rdJ (i := 24 * x + i) ml64 gr_ix (by omega) rfl (w_wrJ (i := 24 * x + i) ml64 gr_ix (by omega) (w_rdI ml62 rfl (by omega) ej (w_rdJ (i := 24 * x + j) ml64 gr_ix (by omega) rfl (w_wrJ (i := 24 * x + j) ml64 gr_ix (by omega) (w_rdI ml63 rfl (by omega) ek (w_rdJ (i := 24 * x + k) ml64 gr_ix (by omega) rfl (w_wrJ (i := 24 * x + k) ml64 gr_ix (by omega) (ih (x + 1) _ (by omega) (fr_J2 (fr_J2 (fr_J2 hf (by unfold cvH; omega)) (by unfold cvH; omega)) (by unfold cvH; omega)) hI))))))))))
  have c1 : ∀ (d k : Nat) (y : ow_MS), k + d = 312 → fr cvH z y → arcI y c a → Tt (fun K t => q_X13_makeCover K t 1 (nI c) (nI k) 0 0 0 0 0 0 0 n y) Q := by
    intro d
    induction d with
    | zero =>
      intro k y hk hf hI
      refine u_X13_makeCover_1 ?_; unfold qm_X13_makeCover_1
      exact w_leT (a := 312) (by omega) (by omega) (c2 c 0 y (by omega) hf hI)
    | succ d ih =>
      intro k y hk hf hI
      refine u_X13_makeCover_1 ?_; unfold qm_X13_makeCover_1
      rw [nI_1]
      exact w_leF (a := 312) (by omega) (by omega) (w_wrJ ml64 rfl (by omega) (ih (k + 1) _ (by omega) (fr_J2 hf (by unfold cvH; omega)) hI))
  exact c1 312 0 z1 (by omega) f0 ⟨h58, hR⟩
theorem e_X13_coverOf {x1 : Int32} {z : ow_MS} {Q : ow_MS → Prop} (H : Tt (fun K k => q_X13_coverOf K k 0 x1 0 z) Q) : Te (fun K => qe_X13_coverOf K x1 z) Q := w_te H
theorem u_X13_coverOf_0 {x1 : Int32} {x2 : Int32} {z : ow_MS} {Q : ow_MS → Prop} (H : Tt (fun K k => qm_X13_coverOf_0 K (q_X13_coverOf K k) x1 x2 z) Q) : Tt (fun K k => q_X13_coverOf K k 0 x1 x2 z) Q := w_un (fun _ _ => rfl) H
theorem u_X13_coverOf_1 {x1 : Int32} {x2 : Int32} {z : ow_MS} {Q : ow_MS → Prop} (H : Tt (fun K k => qm_X13_coverOf_1 K (q_X13_coverOf K k) x1 x2 z) Q) : Tt (fun K k => q_X13_coverOf K k 1 x1 x2 z) Q := w_un (fun _ _ => rfl) H
theorem tp_coverOf {e : Nat} {A : rn_L} {sg : Nat → Bool} (h : gI X z) (he : e < 40) (hv : vRow z 12 (32 * e) A sg) : Te (fun K => qe_X13_coverOf K (nI e) z) (fun z1 => gI X z1) := by
  obtain ⟨_, _, _, ⟨T1, k1⟩, kC⟩ := h.2.2.2.2.1
  have hTl := hv.1.1
  refine e_X13_coverOf ?_
  refine u_X13_coverOf_0 ?_; unfold qm_X13_coverOf_0
  rw [show (32 : Int32) * nI e = nI (32 * e) from pk_mul 32 e]
  refine w_cs1 (tr_same (o := 32 * e) (p := 0) ml12 ml65 (by omega) (by omega) (by omega) (by omega) hv.1 k1) (fun a y e9 => ?_)
  cases e9
  refine w_if (fun _ => ?_) (fun _ => w_some h)
  refine w_cs0 (to_open pn1 he hv) (fun z2 ⟨o2, f2⟩ => w_cs0 (tp_makeCover pn1 o2) (fun z3 ⟨⟨cv, hcv, h67⟩, f3⟩ => ?_))
  have hf3 : fr (fun g => 1000 ≤ g ∨ 58 ≤ g ∧ g ≤ 64 ∨ 66 ≤ g ∧ g ≤ 72) z z3 := fr_tr (fr_mono (fun g hg => by omega) f2) (fr_mono (fun g hg => by unfold cvH at hg; omega) f3)
  have g3 : gI X z3 := by
    refine gI_cash hf3 (fun g hg => ?_) ?_ h
    · by_cases h67 : g = 67
      · exact Or.inl (by omega)
      · exact Or.inr (by unfold per; omega)
    · obtain ⟨⟨T2, k2⟩, ⟨T3, k3⟩, ⟨T4, k4⟩, ⟨T5, k5⟩, -⟩ := h.2.2.2.2.1
      exact ⟨⟨T2, rc_fr hf3 (by omega) k2⟩, ⟨T3, rc_fr hf3 (by omega) k3⟩, ⟨T4, rc_fr hf3 (by omega) k4⟩, ⟨T5, rc_fr hf3 (by omega) k5⟩, cv, hcv, h67⟩
  have lp2 : ∀ (dd i : Nat) (y : ow_MS), i + dd = 32 → fr (fun g => g = 65) z3 y → (∀ t, t < i → y.2.1 65 t = z3.2.1 12 (32 * e + t)) → Tt (fun K t => q_X13_coverOf K t 1 (nI e) (nI i) y) (fun z1 => gI X z1) := by
    intro dd
    induction dd with
    | zero =>
      intro i y hi hf ht
      refine u_X13_coverOf_1 ?_; unfold qm_X13_coverOf_1
      refine w_leT (a := 32) (by omega) (by omega) (w_some (gI_cash hf (fun g hg => Or.inl (Or.inr (Or.inr (Or.inr (Or.inl hg))))) ?_ g3))
      obtain ⟨⟨T2, k2⟩, ⟨T3, k3⟩, ⟨T4, k4⟩, -, cc, k5, k6⟩ := g3.2.2.2.2.1
      have hrow : rc_At z3 12 (32 * e) (tk sg A) := rc_fr hf3 (by omega) hv.1
      exact ⟨⟨T2, rc_fr hf (by decide) k2⟩, ⟨T3, rc_fr hf (by decide) k3⟩, ⟨T4, rc_fr hf (by decide) k4⟩, ⟨_, rc_cpy hrow (fun t h9 => ht t (by omega))⟩, cc, k5, by rw [(hf 67 (by decide)).1]; exact k6⟩
    | succ dd ih =>
      intro i y hi hf ht
      refine u_X13_coverOf_1 ?_; unfold qm_X13_coverOf_1
      rw [show (32 : Int32) * nI e = nI (32 * e) from pk_mul 32 e, nI_add, nI_1]
      refine w_leF (a := 32) (by omega) (by omega) (w_rdI ml12 rfl (by omega) rfl (w_wrI ml65 rfl (by omega) (ih (i + 1) _ (by omega) (fr_I2 hf rfl) (fun t h9 => ?_))))
      by_cases hti : t = i
      · rw [hti, po_usI_at, (hf 12 (by decide)).2.1]
      · exact rd_ne hti (ht t (by omega))
  exact lp2 32 0 z3 (by omega) fr_rf (fun t ht => absurd ht (by omega))
theorem u_X13_cover_1 {x1 : Int32} {x2 : Int32} {z : ow_MS} {Q : (Int32 × ow_MS) → Prop} (H : Tt (fun K k => qm_X13_cover_1 K (q_X13_cover K k) x1 x2 z) Q) : Tt (fun K k => q_X13_cover K k 1 x1 x2 z) Q := w_un (fun _ _ => rfl) H
theorem e_X13_cover {x1 : Int32} {x2 : Int32} {z : ow_MS} {Q : (Int32 × ow_MS) → Prop} (H : Tt (fun K k => q_X13_cover K k 0 x1 x2 z) Q) : Te (fun K => qe_X13_cover K x1 x2 z) Q := w_te H
theorem u_X13_cover_0 {x1 : Int32} {x2 : Int32} {z : ow_MS} {Q : (Int32 × ow_MS) → Prop} (H : Tt (fun K k => qm_X13_cover_0 K (q_X13_cover K k) x1 x2 z) Q) : Tt (fun K k => q_X13_cover K k 0 x1 x2 z) Q := w_un (fun _ _ => rfl) H
theorem tp_cover {d k : Int32} (h : gI X z) : Te (fun K => qe_X13_cover K d k z) (fun r => gI X r.2) := by
  have h1 := gI_1 (c := 0) h
  have c1 : ∀ {x1 x2 : Int32} {y : ow_MS}, gI X y → Tt (fun K i => q_X13_cover K i 1 x1 x2 y) (fun r => gI X r.2) := by
    intro x1 x2 y hy
    refine u_X13_cover_1 ?_; unfold qm_X13_cover_1
    exact w_some hy
  refine e_X13_cover ?_
  refine u_X13_cover_0 ?_; unfold qm_X13_cover_0
  refine w_wrF (w_has h1.2.1 (w_ifT rfl (w_fail h1)) (fun e A sg he hx hv hne => w_ifF (by decide) ?_))
  subst hx
  refine w_cs0 (tp_coverOf h1 he hv) (fun y gy => w_if (fun _ => c1 gy) (fun h0 => ?_))
  obtain ⟨_, _, _, _, cc, k5, k6⟩ := gy.2.2.2.2.1
  obtain ⟨a, ha, rfl⟩ := nI_of h0
  exact w_rdF k6 (w_lt ha (by omega) (fun h9 => w_rdJ ml66 rfl (by omega) rfl (w_some gy)) (fun _ => c1 gy))
theorem u_X13_colours_1 {x1 : Int32} {x2 : Int32} {x5 : Int32} {w3 : Int64} {z : ow_MS} {Q : (Int64 × ow_MS) → Prop} (H : Tt (fun K k => qm_X13_colours_1 K (q_X13_colours K k) x1 x2 x5 w3 z) Q) : Tt (fun K k => q_X13_colours K k 1 x1 x2 x5 w3 z) Q := w_un (fun _ _ => rfl) H
theorem e_X13_colours {x1 : Int32} {x2 : Int32} {z : ow_MS} {Q : (Int64 × ow_MS) → Prop} (H : Tt (fun K k => q_X13_colours K k 0 x1 x2 0 0 z) Q) : Te (fun K => qe_X13_colours K x1 x2 z) Q := w_te H
theorem u_X13_colours_0 {x1 : Int32} {x2 : Int32} {x5 : Int32} {w3 : Int64} {z : ow_MS} {Q : (Int64 × ow_MS) → Prop} (H : Tt (fun K k => qm_X13_colours_0 K (q_X13_colours K k) x1 x2 x5 w3 z) Q) : Tt (fun K k => q_X13_colours K k 0 x1 x2 x5 w3 z) Q := w_un (fun _ _ => rfl) H
theorem u_X13_colours_2 {x1 : Int32} {x2 : Int32} {x5 : Int32} {w3 : Int64} {z : ow_MS} {Q : (Int64 × ow_MS) → Prop} (H : Tt (fun K k => qm_X13_colours_2 K (q_X13_colours K k) x1 x2 x5 w3 z) Q) : Tt (fun K k => q_X13_colours K k 2 x1 x2 x5 w3 z) Q := w_un (fun _ _ => rfl) H
theorem tp_colours {d k : Int32} (h : gI X z) : Te (fun K => qe_X13_colours K d k z) (fun r => gI X r.2) := by
  have h1 := gI_1 (c := 0) h
  have c1 : ∀ {x1 x2 : Int32} {y : ow_MS}, gI X y → Tt (fun K i => q_X13_colours K i 1 x1 x2 0 0 y) (fun r => gI X r.2) := by
    intro x1 x2 y hy
    refine u_X13_colours_1 ?_; unfold qm_X13_colours_1
    refine w_cs1 tm_fails (fun a z1 e => ?_)
    cases e
    exact w_some (gI_1 hy)
  refine e_X13_colours ?_
  refine u_X13_colours_0 ?_; unfold qm_X13_colours_0
  refine w_wrF (w_has h1.2.1 (w_ifT rfl (w_cs1 tm_fails (fun a z1 e => ?_))) (fun e A sg he hx hv hne => w_ifF (by decide) (w_if (fun _ => c1 h1) (fun h0 => w_if (fun _ => ?_) (fun _ => c1 h1)))))
  · cases e
    exact w_some (gI_1 h1)
  subst hx
  refine w_cs0 (tp_coverOf h1 he hv) (fun y gy => ?_)
  obtain ⟨_, _, _, _, cc, k5, k6⟩ := gy.2.2.2.2.1
  have c2 : ∀ (dd i : Nat) (w : Int64), i + dd = cc → Tt (fun K t => q_X13_colours K t 2 (nI e) k (nI i) w y) (fun r => gI X r.2) := by
    intro dd
    induction dd with
    | zero =>
      intro i w hi
      refine u_X13_colours_2 ?_; unfold qm_X13_colours_2
      exact w_rdF k6 (w_leT (by omega) (by omega) (w_some gy))
    | succ dd ih =>
      intro i w hi
      refine u_X13_colours_2 ?_; unfold qm_X13_colours_2
      refine w_rdF k6 (w_leF (by omega) (by omega) (w_rdJ ml66 rfl (by omega) rfl (w_cs1 tp_gcd (fun a1 y1 e1 => ?_))))
      have e1 : y1 = y := e1
      subst e1
      rw [nI_1]
      exact ih (i + 1) _ (by omega)
  exact c2 cc 0 _ (by omega)
end COV
end
section
/-! 99zzzo.maps -/
/-! maps has an answer -/
/-- how many permutations there are -/
def thM (m : Nat) : Nat := if m = 2 then 2 else if m = 3 then 6 else if m = 4 then 24 else 1
theorem thM_le (m : Nat) : 1 ≤ thM m ∧ thM m ≤ 24 := by
  unfold thM
  split
  · omega
  · split
    · omega
    · split <;> omega
/-- what the tables of permutations say -/
def XM (W : Nat → Nat → Int32) : Prop := (∀ m, m ≤ 4 → W 73 m = nI (thM m)) ∧ ∀ m, 1 ≤ m → m ≤ 4 → ∀ o p, o < thM m → p < thM m → (∃ q, q < thM m ∧ W 75 (576 * m + 24 * o + p) = nI q) ∧ ∃ q, q < thM m ∧ W 76 (576 * m + 24 * o + p) = nI q
def XMz (y : ow_MS) : Prop := XM (fun g => y.2.1 (if g = 53 ∨ 73 ≤ g ∧ g ≤ 76 ∨ 97 ≤ g ∧ g ≤ 105 then g else 73))
theorem XMz_th {y : ow_MS} {m : Nat} (h : XMz y) (hm : m ≤ 4) : y.2.1 73 m = nI (thM m) := h.1 m hm
theorem XMz_tb {y : ow_MS} {m o p r : Nat} (h : XMz y) (h1 : 1 ≤ m) (h4 : m ≤ 4) (ho : o < thM m) (hp : p < thM m) (hr : r = 75 ∨ r = 76) : inR y r (576 * m + 24 * o + p) (thM m) := by
  obtain ⟨a, b⟩ := h.2 m h1 h4 o p ho hp
  rcases hr with rfl | rfl
  · exact a
  · exact b
theorem XMz_fr {P : Nat → Prop} {y y1 : ow_MS} (hf : fr P y y1) (hP : ∀ g, P g → ¬ (73 ≤ g ∧ g ≤ 76)) (h : XMz y) : XMz y1 := by
  have e : ∀ g, 73 ≤ g → g ≤ 76 → y1.2.1 g = y.2.1 g := fun g h1 h2 => (hf g (fun h9 => hP g h9 ⟨h1, h2⟩)).2.1
  refine ⟨fun m hm => ?_, fun m h1 h4 o p ho hp => ?_⟩
  · show y1.2.1 73 m = _
    rw [e 73 (by omega) (by omega)]
    exact h.1 m hm
  · show (∃ q, q < thM m ∧ y1.2.1 75 _ = nI q) ∧ ∃ q, q < thM m ∧ y1.2.1 76 _ = nI q
    rw [e 75 (by omega) (by omega), e 76 (by omega) (by omega)]
    exact h.2 m h1 h4 o p ho hp
/-- what has been given: T the trail -/
def mgI (y : ow_MS) (a m : Nat) (T : List Nat) : Prop := y.1 79 = nI T.length ∧ T.Nodup ∧ (∀ b, b ∈ T → b < a) ∧ (∀ i b, T[i]? = some b → y.2.1 78 i = nI b) ∧ ∀ b, b < 40 → (b ∉ T ∧ y.2.1 77 b = -1) ∨ (b ∈ T ∧ ∃ q, q < thM m ∧ y.2.1 77 b = nI q)
theorem mgI_len {y : ow_MS} {a m : Nat} {T : List Nat} (h : mgI y a m T) : T.length ≤ a := by
  have := nodup_le T (List.range a) h.2.1 (fun b hb => List.mem_range.mpr (h.2.2.1 b hb))
  rw [List.length_range] at this
  exact this
theorem mgI_room {y : ow_MS} {a m b : Nat} {T : List Nat} (h : mgI y a m T) (hb : b < a) (hn : b ∉ T) : T.length < a := by
  have := nodup_le (b :: T) (List.range a) (List.nodup_cons.mpr ⟨hn, h.2.1⟩) (fun c hc => by
    rcases List.mem_cons.mp hc with h9 | h9
    · rw [h9]; exact List.mem_range.mpr hb
    · exact List.mem_range.mpr (h.2.2.1 c h9))
  rw [List.length_range, List.length_cons] at this
  omega
abbrev gvH (g : Nat) : Prop := 77 ≤ g ∧ g ≤ 79
section MAPS
variable {X : (Nat → Nat → Int32) → Prop} {z : ow_MS}
theorem e_X13_give {x1 : Int32} {x2 : Int32} {z : ow_MS} {Q : ow_MS → Prop} (H : Tt (fun K _ => qm_X13_give_0 K x1 x2 z) Q) : Te (fun K => qe_X13_give K x1 x2 z) Q := w_te0 H
theorem tp_give {a m b q : Nat} {T : List Nat} (ha : a ≤ 18) (hI : mgI z a m T) (hb : b < a) (hn : b ∉ T) (hq : q < thM m) : Te (fun K => qe_X13_give K (nI b) (nI q) z) (fun z1 => mgI z1 a m (T ++ [b]) ∧ fr gvH z z1) := by
  have hr := mgI_room hI hb hn
  obtain ⟨h1, h2, h3, h4, h5⟩ := hI
  refine e_X13_give ?_; unfold qm_X13_give_0
  refine w_wrI ml77 rfl (by omega) (w_rdF (x := nI T.length) h1 (w_wrI ml78 rfl (by omega) (w_rdF (x := nI T.length) h1 (w_wrF (w_some ⟨⟨?_, ?_, fun c hc => ?_, fun i c hc => ?_, fun c hc => ?_⟩, ?_⟩)))))
  · rw [po_usF_at, List.length_append]
    exact nI_1 _
  · rw [List.nodup_append]
    refine ⟨h2, by simp, fun x hx y hy e => hn ?_⟩
    have : y = b := by simpa using hy
    rw [← this, ← e]
    exact hx
  · rcases List.mem_append.mp hc with h9 | h9
    · exact h3 c h9
    · have : c = b := by simpa using h9
      omega
  · show (usI (usI z 77 b (nI q)) 78 T.length (nI b)).2.1 78 i = nI c
    by_cases hi : i = T.length
    · rw [hi, List.getElem?_append_right (Nat.le_refl _), Nat.sub_self] at hc
      cases hc
      rw [hi, po_usI_at]
    · have hlt : i < T.length := by
        have h9 := (List.getElem?_eq_some_iff.mp hc).1
        rw [List.length_append] at h9
        have h9 : i < T.length + 1 := h9
        omega
      rw [List.getElem?_append_left hlt] at hc
      exact rd_ne hi (rd_ot (by omega) (h4 i c hc))
  · show (c ∉ T ++ [b] ∧ (usI (usI z 77 b (nI q)) 78 T.length (nI b)).2.1 77 c = -1) ∨ (c ∈ T ++ [b] ∧ ∃ q', q' < thM m ∧ (usI (usI z 77 b (nI q)) 78 T.length (nI b)).2.1 77 c = nI q')
    by_cases hcb : c = b
    · rw [hcb]
      exact Or.inr ⟨List.mem_append_right _ (List.mem_singleton.mpr rfl), q, hq, rd_ot (by omega) po_usI_at⟩
    · rcases h5 c hc with ⟨k1, k2⟩ | ⟨k1, k2, k3, k4⟩
      · refine Or.inl ⟨fun h9 => ?_, rd_ot (by omega) (rd_ne hcb k2)⟩
        rcases List.mem_append.mp h9 with h8 | h8
        · exact k1 h8
        · exact hcb (by simpa using h8)
      · exact Or.inr ⟨List.mem_append_left _ k1, k2, k3, rd_ot (by omega) (rd_ne hcb k4)⟩
  · exact fr_F2 (fr_I2 (fr_I (by unfold gvH; omega)) (by unfold gvH; omega)) (by unfold gvH; omega)
theorem u_X13_takeBack_0 {x1 : Int32} {z : ow_MS} {Q : ow_MS → Prop} (H : Tt (fun K k => qm_X13_takeBack_0 K (q_X13_takeBack K k) x1 z) Q) : Tt (fun K k => q_X13_takeBack K k 0 x1 z) Q := w_un (fun _ _ => rfl) H
theorem e_X13_takeBack {x1 : Int32} {z : ow_MS} {Q : ow_MS → Prop} (H : Tt (fun K k => q_X13_takeBack K k 0 x1 z) Q) : Te (fun K => qe_X13_takeBack K x1 z) Q := w_te H
theorem tp_takeBack {a m k : Nat} (ha : a ≤ 18) : ∀ {z : ow_MS} {T E : List Nat}, mgI z a m (T ++ E) → T.length = k → Te (fun K => qe_X13_takeBack K (nI k) z) (fun z1 => mgI z1 a m T ∧ fr gvH z z1) := by
  intro z T E hI hk
  have key : ∀ (d : Nat) (E : List Nat) (y : ow_MS), E.length = d → mgI y a m (T ++ E) → fr gvH z y → Tt (fun K i => q_X13_takeBack K i 0 (nI k) y) (fun z1 => mgI z1 a m T ∧ fr gvH z z1) := by
    intro d
    induction d with
    | zero =>
      intro E y hE hI hf
      have hE : E = [] := List.length_eq_zero_iff.mp hE
      subst hE
      rw [List.append_nil] at hI
      have := mgI_len hI
      refine u_X13_takeBack_0 ?_; unfold qm_X13_takeBack_0
      exact w_rdF hI.1 (w_leT (by omega) (by omega) (w_some ⟨hI, hf⟩))
    | succ d ih =>
      intro E y hE hI hf
      have hlen := mgI_len hI
      rw [List.length_append] at hlen
      obtain ⟨F, b, rfl⟩ : ∃ F b, E = F ++ [b] := by
        rcases List.eq_nil_or_concat E with h9 | ⟨F, b, h9⟩
        · rw [h9] at hE
          cases hE
        · exact ⟨F, b, by rw [h9, List.concat_eq_append]⟩
      rw [List.length_append] at hE hlen
      have hE : F.length + 1 = d + 1 := hE
      have hlen : T.length + (F.length + 1) ≤ a := hlen
      obtain ⟨h1, h2, h3, h4, h5⟩ := hI
      rw [← List.append_assoc] at h1 h2 h3 h4 h5
      have hb : b < a := h3 b (List.mem_append_right _ (List.mem_singleton.mpr rfl))
      have hL : ((T ++ F) ++ [b]).length = T.length + F.length + 1 := by
        rw [List.length_append, List.length_append]
        rfl
      rw [hL] at h1
      have h78 := h4 (T.length + F.length) b (by rw [List.getElem?_append_right (by rw [List.length_append]; exact Nat.le_refl _), List.length_append, Nat.sub_self]; rfl)
      have hnb : b ∉ T ++ F := fun h9 => (List.nodup_append.mp h2).2.2 b h9 b (List.mem_singleton.mpr rfl) rfl
      have e79 : nI (T.length + F.length + 1) - 1 = nI (T.length + F.length) := pk_sub (b := 1) (by omega)
      refine u_X13_takeBack_0 ?_; unfold qm_X13_takeBack_0
      refine w_rdF h1 (w_leF (by omega) (by omega) (w_rdF h1 (w_wrF (w_rdF (x := nI (T.length + F.length)) (po_usF_at.trans e79) (w_rdI ml78 rfl (by omega) h78 (w_wrI ml77 rfl (by omega) (ih F _ (by omega) ⟨?_, (List.nodup_append.mp h2).1, fun c hc => h3 c (List.mem_append_left _ hc), fun i c hc => ?_, fun c hc => ?_⟩ (fr_I2 (fr_F2 hf (by unfold gvH; omega)) (by unfold gvH; omega)))))))))
      · show (usF y 79 (nI (T.length + F.length + 1) - 1)).1 79 = _
        rw [po_usF_at, e79, List.length_append]
      · show (usI (usF y 79 (nI (T.length + F.length + 1) - 1)) 77 b (-1)).2.1 78 i = nI c
        refine rd_ot (by omega) (h4 i c ?_)
        rw [List.getElem?_append_left (List.getElem?_eq_some_iff.mp hc).1]
        exact hc
      · show (c ∉ T ++ F ∧ (usI (usF y 79 (nI (T.length + F.length + 1) - 1)) 77 b (-1)).2.1 77 c = -1) ∨ (c ∈ T ++ F ∧ ∃ q, q < thM m ∧ (usI (usF y 79 (nI (T.length + F.length + 1) - 1)) 77 b (-1)).2.1 77 c = nI q)
        by_cases hcb : c = b
        · rw [hcb]
          exact Or.inl ⟨hnb, po_usI_at⟩
        · rcases h5 c hc with ⟨k1, k2⟩ | ⟨k1, q, k3, k4⟩
          · exact Or.inl ⟨fun h9 => k1 (List.mem_append_left _ h9), rd_ne hcb k2⟩
          · refine Or.inr ⟨?_, q, k3, rd_ne hcb k4⟩
            rcases List.mem_append.mp k1 with h8 | h8
            · exact h8
            · exact absurd (by simpa using h8) hcb
  refine e_X13_takeBack ?_
  exact key E.length E z rfl hI fr_rf
/-- the net, the arcs, the tables while maps are counted -/
def mcI (y : ow_MS) (n : Nat) (A : rn_L) (sg : Nat → Bool) (c a : Nat) : Prop := oNet y n A sg ∧ arcI y c a ∧ XMz y
theorem mcI_fr {n : Nat} {y y1 : ow_MS} {A : rn_L} {sg : Nat → Bool} {c a : Nat} {P : Nat → Prop} (hn : mw_net n) (hf : fr P y y1) (hP : ∀ g, P g → 77 ≤ g ∧ g ≤ 80) (h : mcI y n A sg c a) : mcI y1 n A sg c a := by
  have hmn := net_mod hn
  refine ⟨oNet_fr hf (fun g hg => by have := hP g hg; omega) h.1, ⟨by rw [(hf 58 (fun h9 => by have := hP _ h9; omega)).1]; exact h.2.1.1, fun x hx => ?_⟩, XMz_fr hf (fun g hg => by have := hP g hg; omega) h.2.2⟩
  obtain ⟨k1, k2, k3⟩ := h.2.1.2 x hx
  exact ⟨inR_fr hf (fun h9 => by have := hP _ h9; omega) k1, inR_fr hf (fun h9 => by have := hP _ h9; omega) k2, inR_fr hf (fun h9 => by have := hP _ h9; omega) k3⟩
theorem tb_ix {m o p : Nat} : (576 : Int32) * nI m + 24 * nI o + nI p = nI (576 * m + 24 * o + p) := by
  rw [show (576 : Int32) * nI m = nI (576 * m) from pk_mul 576 m, show (24 : Int32) * nI o = nI (24 * o) from pk_mul 24 o, nI_add, nI_add]
theorem tb_len {r : Nat} (hr : r = 75 ∨ r = 76) : (mX.2 r).2.1 = 2880 := by
  rcases hr with rfl | rfl
  · exact ml75
  · exact ml76
theorem half_V {c : Nat} (hc : c ≤ 40) : nI (2 * c) / 2 = nI c := by
  rw [show nI (2 * c) / 2 = nI (2 * c / 2) from pk_div (d := 2) (by omega) (by omega) (by omega)]
  congr 1
  omega
theorem u_X13_follows_2 {x2 : Int32} {x3 : Int32} {x4 : Int32} {x5 : Int32} {x8 : Int32} {x9 : Int32} {r1 : Nat} {r6 : Nat} {r7 : Nat} {g0 : Nat} {z : ow_MS} {Q : (Int32 × ow_MS) → Prop} (H : Tt (fun K k => qm_X13_follows_2 K (q_X13_follows K k) x2 x3 x4 x5 x8 x9 r1 r6 r7 g0 z) Q) : Tt (fun K k => q_X13_follows K k 2 x2 x3 x4 x5 x8 x9 r1 r6 r7 g0 z) Q := w_un (fun _ _ => rfl) H
theorem u_X13_follows_1 {x2 : Int32} {x3 : Int32} {x4 : Int32} {x5 : Int32} {x8 : Int32} {x9 : Int32} {r1 : Nat} {r6 : Nat} {r7 : Nat} {g0 : Nat} {z : ow_MS} {Q : (Int32 × ow_MS) → Prop} (H : Tt (fun K k => qm_X13_follows_1 K (q_X13_follows K k) x2 x3 x4 x5 x8 x9 r1 r6 r7 g0 z) Q) : Tt (fun K k => q_X13_follows K k 1 x2 x3 x4 x5 x8 x9 r1 r6 r7 g0 z) Q := w_un (fun _ _ => rfl) H
theorem u_X13_follows_7 {x2 : Int32} {x3 : Int32} {x4 : Int32} {x5 : Int32} {x8 : Int32} {x9 : Int32} {r1 : Nat} {r6 : Nat} {r7 : Nat} {g0 : Nat} {z : ow_MS} {Q : (Int32 × ow_MS) → Prop} (H : Tt (fun K k => qm_X13_follows_7 K (q_X13_follows K k) x2 x3 x4 x5 x8 x9 r1 r6 r7 g0 z) Q) : Tt (fun K k => q_X13_follows K k 7 x2 x3 x4 x5 x8 x9 r1 r6 r7 g0 z) Q := w_un (fun _ _ => rfl) H
theorem u_X13_follows_6 {x2 : Int32} {x3 : Int32} {x4 : Int32} {x5 : Int32} {x8 : Int32} {x9 : Int32} {r1 : Nat} {r6 : Nat} {r7 : Nat} {g0 : Nat} {z : ow_MS} {Q : (Int32 × ow_MS) → Prop} (H : Tt (fun K k => qm_X13_follows_6 K (q_X13_follows K k) x2 x3 x4 x5 x8 x9 r1 r6 r7 g0 z) Q) : Tt (fun K k => q_X13_follows K k 6 x2 x3 x4 x5 x8 x9 r1 r6 r7 g0 z) Q := w_un (fun _ _ => rfl) H
theorem u_X13_follows_5 {x2 : Int32} {x3 : Int32} {x4 : Int32} {x5 : Int32} {x8 : Int32} {x9 : Int32} {r1 : Nat} {r6 : Nat} {r7 : Nat} {g0 : Nat} {z : ow_MS} {Q : (Int32 × ow_MS) → Prop} (H : Tt (fun K k => qm_X13_follows_5 K (q_X13_follows K k) x2 x3 x4 x5 x8 x9 r1 r6 r7 g0 z) Q) : Tt (fun K k => q_X13_follows K k 5 x2 x3 x4 x5 x8 x9 r1 r6 r7 g0 z) Q := w_un (fun _ _ => rfl) H
theorem u_X13_follows_4 {x2 : Int32} {x3 : Int32} {x4 : Int32} {x5 : Int32} {x8 : Int32} {x9 : Int32} {r1 : Nat} {r6 : Nat} {r7 : Nat} {g0 : Nat} {z : ow_MS} {Q : (Int32 × ow_MS) → Prop} (H : Tt (fun K k => qm_X13_follows_4 K (q_X13_follows K k) x2 x3 x4 x5 x8 x9 r1 r6 r7 g0 z) Q) : Tt (fun K k => q_X13_follows K k 4 x2 x3 x4 x5 x8 x9 r1 r6 r7 g0 z) Q := w_un (fun _ _ => rfl) H
theorem u_X13_follows_3 {x2 : Int32} {x3 : Int32} {x4 : Int32} {x5 : Int32} {x8 : Int32} {x9 : Int32} {r1 : Nat} {r6 : Nat} {r7 : Nat} {g0 : Nat} {z : ow_MS} {Q : (Int32 × ow_MS) → Prop} (H : Tt (fun K k => qm_X13_follows_3 K (q_X13_follows K k) x2 x3 x4 x5 x8 x9 r1 r6 r7 g0 z) Q) : Tt (fun K k => q_X13_follows K k 3 x2 x3 x4 x5 x8 x9 r1 r6 r7 g0 z) Q := w_un (fun _ _ => rfl) H
theorem e_X13_follows {r1 : Nat} {x2 : Int32} {z : ow_MS} {Q : (Int32 × ow_MS) → Prop} (H : Tt (fun K k => q_X13_follows K k 0 x2 0 0 0 0 0 r1 0 0 0 z) Q) : Te (fun K => qe_X13_follows K r1 x2 z) Q := w_te H
theorem u_X13_follows_0 {x2 : Int32} {x3 : Int32} {x4 : Int32} {x5 : Int32} {x8 : Int32} {x9 : Int32} {r1 : Nat} {r6 : Nat} {r7 : Nat} {g0 : Nat} {z : ow_MS} {Q : (Int32 × ow_MS) → Prop} (H : Tt (fun K k => qm_X13_follows_0 K (q_X13_follows K k) x2 x3 x4 x5 x8 x9 r1 r6 r7 g0 z) Q) : Tt (fun K k => q_X13_follows K k 0 x2 x3 x4 x5 x8 x9 r1 r6 r7 g0 z) Q := w_un (fun _ _ => rfl) H
theorem tp_follows {n m c a : Nat} {A : rn_L} {sg : Nat → Bool} (hn : mw_net n) (hm1 : 1 ≤ m) (hm4 : m ≤ 4) (hV : A.flatten.length = 2 * c) (hc : c ≤ 12) (ha : a ≤ 18) {T : List Nat} (hI : mgI z a m T) (hM : mcI z n A sg c a) : Te (fun K => qe_X13_follows K n (nI m) z) (fun r => (∃ E, mgI r.2 a m (T ++ E)) ∧ fr gvH z r.2) := by
  let Q : Int32 × ow_MS → Prop := fun r => (∃ E, mgI r.2 a m (T ++ E)) ∧ fr gvH z r.2
  have hth := thM_le m
  have mF : ∀ {y : ow_MS}, fr gvH z y → mcI y n A sg c a := fun hf => mcI_fr hn hf (fun g hg => by unfold gvH at hg; omega) hM
  have key : ∀ (k : Nat) (E : List Nat) (y : ow_MS), a - (T ++ E).length ≤ k → mgI y a m (T ++ E) → fr gvH z y → Tt (fun K i => q_X13_follows K i 1 (nI m) 1 0 0 0 0 n 0 0 0 y) Q := by
    intro k
    induction k using Nat.strongRecOn with
    | ind k ih =>
    intro E y hk hI hf
    have pass : ∀ (d x : Nat) (F : List Nat) (x3 : Int32) (y : ow_MS), x + d = c → mgI y a m (T ++ F) → fr gvH z y → (x3 = 0 ∨ x3 = 1 ∧ (T ++ E).length < (T ++ F).length) → (T ++ E).length ≤ (T ++ F).length → Tt (fun K i => q_X13_follows K i 2 (nI m) x3 (nI x) 0 0 0 n 0 0 0 y) Q := by
      intro d
      induction d with
      | zero =>
        intro x F x3 y hx hI hf h3 hle0
        refine u_X13_follows_2 ?_; unfold qm_X13_follows_2
        refine w_rdF (mF hf).1.1.V (w_nzI (by decide) ?_)
        rw [hV, half_V (by omega)]
        refine w_leT (by omega) (by omega) ?_
        rcases h3 with h3 | ⟨h3, h4⟩
        · rw [h3]
          refine u_X13_follows_1 ?_; unfold qm_X13_follows_1
          exact w_ifT rfl (w_okZ (Or.inr rfl) (w_some ⟨⟨F, hI⟩, hf⟩))
        · rw [h3]
          have := mgI_len hI
          exact ih (a - (T ++ F).length) (by omega) F y (Nat.le_refl _) hI hf
      | succ d ihp =>
        intro x F x3 y hx hI hf h3 hle0
        have hMy := mF hf
        obtain ⟨⟨o, ho, eo⟩, ⟨i, hi, ei⟩, ⟨j, hj, ej⟩⟩ := hMy.2.1.2 x (by omega)
        have c7 : ∀ (F : List Nat) (x3 x5 : Int32) (y : ow_MS), mgI y a m (T ++ F) → fr gvH z y → (x3 = 0 ∨ x3 = 1 ∧ (T ++ E).length < (T ++ F).length) → (T ++ E).length ≤ (T ++ F).length → Tt (fun K i => q_X13_follows K i 7 (nI m) x3 (nI x) x5 0 0 n 0 0 0 y) Q := by
          intro F x3 x5 y hI hf h3 hle0
          refine u_X13_follows_7 ?_; unfold qm_X13_follows_7
          rw [nI_1]
          exact ihp (x + 1) F x3 y (by omega) hI hf h3 hle0
        refine u_X13_follows_2 ?_; unfold qm_X13_follows_2
        refine w_rdF hMy.1.1.V (w_nzI (by decide) ?_)
        rw [hV, half_V (by omega)]
        refine w_leF (by omega) (by omega) (w_rdI ml61 rfl (by omega) eo (w_rdI ml77 rfl (by omega) rfl (w_rdI ml80 rfl (by omega) rfl (w_if (fun _ => c7 F x3 _ y hI hf h3 hle0) (fun _ => w_if (fun _ => c7 F x3 _ y hI hf h3 hle0) (fun hne => ?_))))))
        rcases hI.2.2.2.2 o (by omega) with ⟨-, k2⟩ | ⟨hoT, g, hg, eg⟩
        · exact absurd k2 hne
        rw [eg]
        -- the length of what was there when the round began
        have c4 : ∀ (r6 r7 : Nat), (r6 = 75 ∨ r6 = 76) → (r7 = 75 ∨ r7 = 76) → Tt (fun K i => q_X13_follows K i 4 (nI m) x3 (nI x) (nI g) 0 0 n r6 0 r7 y) Q := by
          intro r6 r7 hr6 hr7
          have grow : ∀ b, ((T ++ E).length ≤ (T ++ F).length) → (T ++ E).length < (T ++ (F ++ [b])).length := by
            intro b h9
            rw [← List.append_assoc, List.length_append (as := T ++ F)]
            show _ < _ + 1
            omega
          have hEF : (T ++ E).length ≤ (T ++ F).length ∨ (T ++ F).length < (T ++ E).length := by omega
          have c6 : ∀ (v8 v10 : Int32), ((j ∉ T ++ F ∧ v10 = -1) ∨ (j ∈ T ++ F ∧ ∃ q, q < thM m ∧ v10 = nI q)) → ((i ∉ T ++ F ∧ v8 = -1) ∨ (i ∈ T ++ F ∧ ∃ q, q < thM m ∧ v8 = nI q)) → (T ++ E).length ≤ (T ++ F).length → Tt (fun K i => q_X13_follows K i 6 (nI m) x3 (nI x) (nI g) v8 v10 n r6 r7 0 y) Q := by
            intro v8 v10 h10 h8 hle
            refine u_X13_follows_6 ?_; unfold qm_X13_follows_6
            refine w_if (fun e8 => w_if (fun _ => c7 F x3 _ y hI hf h3 hle0) (fun n10 => ?_)) (fun _ => c7 F x3 _ y hI hf h3 hle0)
            rcases h10 with ⟨-, k2⟩ | ⟨-, q, hq, rfl⟩
            · exact absurd k2 n10
            rcases h8 with ⟨k1, -⟩ | ⟨-, q2, hq2, rfl⟩
            · obtain ⟨t, ht, et⟩ := XMz_tb hMy.2.2 hm1 hm4 hg hq hr7
              have hb : 576 * m + 24 * g + q < 2880 := by omega
              rw [tb_ix]
              refine w_rdI ml62 rfl (by omega) ei (w_rdI (tb_len hr7) rfl hb et (w_cs0 (tp_give ha hI hi k1 ht) (fun y1 ⟨I1, f1⟩ => ?_)))
              rw [List.append_assoc] at I1
              exact c7 (F ++ [i]) 1 _ y1 I1 (fr_tr hf f1) (Or.inr ⟨rfl, grow i hle⟩) (Nat.le_of_lt (grow i hle))
            · exact absurd e8 (rn_neg1 (by omega))
          have c5 : ∀ (v8 v10 : Int32), ((j ∉ T ++ F ∧ v10 = -1) ∨ (j ∈ T ++ F ∧ ∃ q, q < thM m ∧ v10 = nI q)) → ((i ∉ T ++ F ∧ v8 = -1) ∨ (i ∈ T ++ F ∧ ∃ q, q < thM m ∧ v8 = nI q)) → (T ++ E).length ≤ (T ++ F).length → Tt (fun K i => q_X13_follows K i 5 (nI m) x3 (nI x) (nI g) v8 v10 n r6 r7 0 y) Q := by
            intro v8 v10 h10 h8 hle
            refine u_X13_follows_5 ?_; unfold qm_X13_follows_5
            refine w_if (fun _ => c6 v8 v10 h10 h8 hle) (fun n8 => w_if (fun e10 => ?_) (fun _ => c6 v8 v10 h10 h8 hle))
            rcases h8 with ⟨-, k2⟩ | ⟨-, q, hq, rfl⟩
            · exact absurd k2 n8
            rcases h10 with ⟨k1, -⟩ | ⟨-, q2, hq2, rfl⟩
            · obtain ⟨t, ht, et⟩ := XMz_tb hMy.2.2 hm1 hm4 hg hq hr6
              have hb : 576 * m + 24 * g + q < 2880 := by omega
              rw [tb_ix]
              refine w_rdI ml63 rfl (by omega) ej (w_rdI (tb_len hr6) rfl hb et (w_cs0 (tp_give ha hI hj k1 ht) (fun y1 ⟨I1, f1⟩ => ?_)))
              rw [List.append_assoc] at I1
              exact c7 (F ++ [j]) 1 _ y1 I1 (fr_tr hf f1) (Or.inr ⟨rfl, grow j hle⟩) (Nat.le_of_lt (grow j hle))
            · exact absurd e10 (rn_neg1 (by omega))
          have h8 := hI.2.2.2.2 i (by omega)
          have h10 := hI.2.2.2.2 j (by omega)
          rcases hEF with hle | hgt
          · refine u_X13_follows_4 ?_; unfold qm_X13_follows_4
            refine w_rdI ml62 rfl (by omega) ei (w_rdI ml77 rfl (by omega) rfl (w_rdI ml63 rfl (by omega) ej (w_rdI ml77 rfl (by omega) rfl (w_if (fun _ => c5 _ _ h10 h8 hle) (fun n8 => w_if (fun _ => c5 _ _ h10 h8 hle) (fun n10 => ?_))))))
            rcases h8 with ⟨-, k2⟩ | ⟨k1, q, hq, eq⟩
            · exact absurd k2 n8
            obtain ⟨t, ht, et⟩ := XMz_tb hMy.2.2 hm1 hm4 hg hq hr6
            have hb : 576 * m + 24 * g + q < 2880 := by omega
            refine w_rdI (tb_len hr6) (by rw [eq]; exact tb_ix) hb et (w_if (fun _ => c5 _ _ h10 (Or.inr ⟨k1, q, hq, eq⟩) hle) (fun _ => w_okZ (Or.inl rfl) (w_some ⟨⟨F, hI⟩, hf⟩)))
          · exfalso
            omega
        refine w_rdI (pl6 hn) rfl (by omega) rfl (w_if (fun _ => ?_) (fun _ => ?_))
        · refine u_X13_follows_3 ?_; unfold qm_X13_follows_3
          exact w_rdI (pl6 hn) rfl (by omega) rfl (w_if (fun _ => c4 76 75 (Or.inr rfl) (Or.inl rfl)) (fun _ => c4 76 76 (Or.inr rfl) (Or.inr rfl)))
        · refine u_X13_follows_3 ?_; unfold qm_X13_follows_3
          exact w_rdI (pl6 hn) rfl (by omega) rfl (w_if (fun _ => c4 75 75 (Or.inl rfl) (Or.inl rfl)) (fun _ => c4 75 76 (Or.inl rfl) (Or.inr rfl)))
    refine u_X13_follows_1 ?_; unfold qm_X13_follows_1
    exact w_ifF (by decide) (pass c 0 E 0 y (by omega) hI hf (Or.inl rfl) (Nat.le_refl _))
  refine e_X13_follows ?_
  refine u_X13_follows_0 ?_; unfold qm_X13_follows_0
  exact key (a - (T ++ []).length) [] z (Nat.le_refl _) (by rw [List.append_nil]; exact hI) fr_rf
end MAPS
end
section
/-! 99zzzp.maps2 -/
/-! maps has an answer: the count itself -/
section MAPS2
variable {X : (Nat → Nat → Int32) → Prop} {z : ow_MS}
theorem w_qdM {dd r1 : Nat} {x2 : Int32} {z : ow_MS} {Q : Int32 × ow_MS → Prop} (H : Tt (fun K k => q_X13_mapsOf K (qd_X13_mapsOf K dd) k 0 x2 0 0 0 0 0 r1 0 z) Q) : Te (fun K => qd_X13_mapsOf K (dd + 1) r1 x2 z) Q := w_te H
theorem u_X13_mapsOf_6 {dd : Nat} {x2 : Int32} {x3 : Int32} {x4 : Int32} {x5 : Int32} {x6 : Int32} {x7 : Int32} {r1 : Nat} {t0 : Int32} {z : ow_MS} {Q : (Int32 × ow_MS) → Prop} (H : Tt (fun K k => qm_X13_mapsOf_6 K (qd_X13_mapsOf K dd) (q_X13_mapsOf K (qd_X13_mapsOf K dd) k) x2 x3 x4 x5 x6 x7 r1 t0 z) Q) : Tt (fun K k => q_X13_mapsOf K (qd_X13_mapsOf K dd) k 6 x2 x3 x4 x5 x6 x7 r1 t0 z) Q := w_un (fun _ _ => rfl) H
theorem u_X13_mapsOf_0 {dd : Nat} {x2 : Int32} {x3 : Int32} {x4 : Int32} {x5 : Int32} {x6 : Int32} {x7 : Int32} {r1 : Nat} {t0 : Int32} {z : ow_MS} {Q : (Int32 × ow_MS) → Prop} (H : Tt (fun K k => qm_X13_mapsOf_0 K (qd_X13_mapsOf K dd) (q_X13_mapsOf K (qd_X13_mapsOf K dd) k) x2 x3 x4 x5 x6 x7 r1 t0 z) Q) : Tt (fun K k => q_X13_mapsOf K (qd_X13_mapsOf K dd) k 0 x2 x3 x4 x5 x6 x7 r1 t0 z) Q := w_un (fun _ _ => rfl) H
theorem u_X13_mapsOf_4 {dd : Nat} {x2 : Int32} {x3 : Int32} {x4 : Int32} {x5 : Int32} {x6 : Int32} {x7 : Int32} {r1 : Nat} {t0 : Int32} {z : ow_MS} {Q : (Int32 × ow_MS) → Prop} (H : Tt (fun K k => qm_X13_mapsOf_4 K (qd_X13_mapsOf K dd) (q_X13_mapsOf K (qd_X13_mapsOf K dd) k) x2 x3 x4 x5 x6 x7 r1 t0 z) Q) : Tt (fun K k => q_X13_mapsOf K (qd_X13_mapsOf K dd) k 4 x2 x3 x4 x5 x6 x7 r1 t0 z) Q := w_un (fun _ _ => rfl) H
theorem u_X13_mapsOf_5 {dd : Nat} {x2 : Int32} {x3 : Int32} {x4 : Int32} {x5 : Int32} {x6 : Int32} {x7 : Int32} {r1 : Nat} {t0 : Int32} {z : ow_MS} {Q : (Int32 × ow_MS) → Prop} (H : Tt (fun K k => qm_X13_mapsOf_5 K (qd_X13_mapsOf K dd) (q_X13_mapsOf K (qd_X13_mapsOf K dd) k) x2 x3 x4 x5 x6 x7 r1 t0 z) Q) : Tt (fun K k => q_X13_mapsOf K (qd_X13_mapsOf K dd) k 5 x2 x3 x4 x5 x6 x7 r1 t0 z) Q := w_un (fun _ _ => rfl) H
theorem u_X13_mapsOf_1 {dd : Nat} {x2 : Int32} {x3 : Int32} {x4 : Int32} {x5 : Int32} {x6 : Int32} {x7 : Int32} {r1 : Nat} {t0 : Int32} {z : ow_MS} {Q : (Int32 × ow_MS) → Prop} (H : Tt (fun K k => qm_X13_mapsOf_1 K (qd_X13_mapsOf K dd) (q_X13_mapsOf K (qd_X13_mapsOf K dd) k) x2 x3 x4 x5 x6 x7 r1 t0 z) Q) : Tt (fun K k => q_X13_mapsOf K (qd_X13_mapsOf K dd) k 1 x2 x3 x4 x5 x6 x7 r1 t0 z) Q := w_un (fun _ _ => rfl) H
theorem u_X13_mapsOf_3 {dd : Nat} {x2 : Int32} {x3 : Int32} {x4 : Int32} {x5 : Int32} {x6 : Int32} {x7 : Int32} {r1 : Nat} {t0 : Int32} {z : ow_MS} {Q : (Int32 × ow_MS) → Prop} (H : Tt (fun K k => qm_X13_mapsOf_3 K (qd_X13_mapsOf K dd) (q_X13_mapsOf K (qd_X13_mapsOf K dd) k) x2 x3 x4 x5 x6 x7 r1 t0 z) Q) : Tt (fun K k => q_X13_mapsOf K (qd_X13_mapsOf K dd) k 3 x2 x3 x4 x5 x6 x7 r1 t0 z) Q := w_un (fun _ _ => rfl) H
theorem u_X13_mapsOf_2 {dd : Nat} {x2 : Int32} {x3 : Int32} {x4 : Int32} {x5 : Int32} {x6 : Int32} {x7 : Int32} {r1 : Nat} {t0 : Int32} {z : ow_MS} {Q : (Int32 × ow_MS) → Prop} (H : Tt (fun K k => qm_X13_mapsOf_2 K (qd_X13_mapsOf K dd) (q_X13_mapsOf K (qd_X13_mapsOf K dd) k) x2 x3 x4 x5 x6 x7 r1 t0 z) Q) : Tt (fun K k => q_X13_mapsOf K (qd_X13_mapsOf K dd) k 2 x2 x3 x4 x5 x6 x7 r1 t0 z) Q := w_un (fun _ _ => rfl) H
theorem tp_mapsOf {n m c a : Nat} {A : rn_L} {sg : Nat → Bool} (hn : mw_net n) (hm1 : 1 ≤ m) (hm4 : m ≤ 4) (hV : A.flatten.length = 2 * c) (hc : c ≤ 12) (ha : a ≤ 18) : ∀ (k dd : Nat) (T : List Nat) (z : ow_MS), a - T.length ≤ k → k < dd → mgI z a m T → mcI z n A sg c a → Te (fun K => qd_X13_mapsOf K dd n (nI m) z) (fun r => mgI r.2 a m T ∧ fr gvH z r.2) := by
  intro k
  induction k using Nat.strongRecOn with
  | ind k ih =>
  intro dd T z hk hdd hI hM
  obtain ⟨dd, rfl⟩ : ∃ d', dd = d' + 1 := ⟨dd - 1, by omega⟩
  have hth := thM_le m
  have hT := mgI_len hI
  let Q : Int32 × ow_MS → Prop := fun r => mgI r.2 a m T ∧ fr gvH z r.2
  have mF : ∀ {y : ow_MS}, fr gvH z y → mcI y n A sg c a := fun hf => mcI_fr hn hf (fun g hg => by unfold gvH at hg; omega) hM
  have c6 : ∀ (x4 : Int32) (E : List Nat) (y : ow_MS), mgI y a m (T ++ E) → fr gvH z y → Tt (fun K i => q_X13_mapsOf K (qd_X13_mapsOf K dd) i 6 (nI m) (nI T.length) x4 0 0 0 n 0 y) Q := by
    intro x4 E y hI hf
    refine u_X13_mapsOf_6 ?_; unfold qm_X13_mapsOf_6
    exact w_cs0 (tp_takeBack ha hI rfl) (fun y1 ⟨I1, f1⟩ => w_some ⟨I1, fr_tr hf f1⟩)
  refine w_qdM ?_
  refine u_X13_mapsOf_0 ?_; unfold qm_X13_mapsOf_0
  refine w_rdF hI.1 (w_cs1 (tp_follows hn hm1 hm4 hV hc ha hI hM) (fun v y ⟨⟨E, IE⟩, fE⟩ => w_if (fun _ => c6 _ E y IE fE) (fun _ => ?_)))
  have IE : mgI y a m (T ++ E) := IE
  have fE : fr gvH z y := fE
  have hMy := mF fE
  have c4 : ∀ (x6 : Int32) (x5 : Int32), (x5 = -1 ∨ ∃ b, x5 = nI b ∧ b < a ∧ b ∉ T ++ E) → Tt (fun K i => q_X13_mapsOf K (qd_X13_mapsOf K dd) i 4 (nI m) (nI T.length) 0 x5 x6 0 n 0 y) Q := by
    intro x6 x5 h5
    refine u_X13_mapsOf_4 ?_; unfold qm_X13_mapsOf_4
    refine w_if (fun _ => c6 _ E y IE fE) (fun n5 => ?_)
    rcases h5 with h5 | ⟨b, rfl, hb, hbT⟩
    · exact absurd h5 n5
    have hroom := mgI_room IE hb hbT
    have c5 : ∀ (d p : Nat) (x4 : Int32) (y : ow_MS), p + d = thM m → mgI y a m (T ++ E) → fr gvH z y → Tt (fun K i => q_X13_mapsOf K (qd_X13_mapsOf K dd) i 5 (nI m) (nI T.length) x4 (nI b) (nI (T ++ E).length) (nI p) n 0 y) Q := by
      intro d
      induction d with
      | zero =>
        intro p x4 y hp I1 f1
        refine u_X13_mapsOf_5 ?_; unfold qm_X13_mapsOf_5
        exact w_rdI ml73 rfl (by omega) (XMz_th (mF f1).2.2 hm4) (w_leT (by omega) (by omega) (c6 _ E y I1 f1))
      | succ d ih5 =>
        intro p x4 y hp I1 f1
        refine u_X13_mapsOf_5 ?_; unfold qm_X13_mapsOf_5
        rw [nI_1]
        refine w_rdI ml73 rfl (by omega) (XMz_th (mF f1).2.2 hm4) (w_leF (by omega) (by omega) (w_cs0 (tp_give ha I1 hb hbT (by omega)) (fun y2 ⟨I2, f2⟩ => w_cs1 (ih (a - ((T ++ E) ++ [b]).length) ?_ dd _ y2 (Nat.le_refl _) ?_ I2 (mF (fr_tr f1 f2))) (fun v y3 ⟨I3, f3⟩ => w_cs0 (tp_takeBack ha I3 rfl) (fun y4 ⟨I4, f4⟩ => ih5 (p + 1) _ y4 (by omega) I4 (fr_tr f1 (fr_tr f2 (fr_tr f3 f4))))))))
        · rw [List.length_append]
          show a - ((T ++ E).length + 1) < k
          rw [List.length_append] at hroom ⊢
          omega
        · rw [List.length_append]
          show a - ((T ++ E).length + 1) < dd
          rw [List.length_append] at hroom ⊢
          omega
    exact w_rdF IE.1 (c5 (thM m) 0 0 y (by omega) IE fE)
  have c1 : ∀ (d x : Nat) (x5 : Int32), x + d = c → (x5 = -1 ∨ ∃ b, x5 = nI b ∧ b < a ∧ b ∉ T ++ E) → Tt (fun K i => q_X13_mapsOf K (qd_X13_mapsOf K dd) i 1 (nI m) (nI T.length) 0 x5 (nI x) 0 n 0 y) Q := by
    intro d
    induction d with
    | zero =>
      intro x x5 hx h5
      refine u_X13_mapsOf_1 ?_; unfold qm_X13_mapsOf_1
      refine w_rdF hMy.1.1.V (w_nzI (by decide) ?_)
      rw [hV, half_V (by omega)]
      exact w_leT (by omega) (by omega) (c4 _ _ h5)
    | succ d ih1 =>
      intro x x5 hx h5
      obtain ⟨⟨o, ho, eo⟩, ⟨i, hi, ei⟩, ⟨j, hj, ej⟩⟩ := hMy.2.1.2 x (by omega)
      have c3 : ∀ (x5 : Int32), (x5 = -1 ∨ ∃ b, x5 = nI b ∧ b < a ∧ b ∉ T ++ E) → Tt (fun K i => q_X13_mapsOf K (qd_X13_mapsOf K dd) i 3 (nI m) (nI T.length) 0 x5 (nI x) 0 n 0 y) Q := by
        intro x5 h5
        refine u_X13_mapsOf_3 ?_; unfold qm_X13_mapsOf_3
        rw [nI_1]
        exact ih1 (x + 1) x5 (by omega) h5
      have c2 : ∀ (x5 t0 : Int32), (t0 = -1 ∨ ∃ b, t0 = nI b ∧ b < a ∧ b ∉ T ++ E) → Tt (fun K i => q_X13_mapsOf K (qd_X13_mapsOf K dd) i 2 (nI m) (nI T.length) 0 x5 (nI x) 0 n t0 y) Q := by
        intro x5 t0 h5
        refine u_X13_mapsOf_2 ?_; unfold qm_X13_mapsOf_2
        exact c3 t0 h5
      have un : ∀ b, b < a → y.2.1 77 b = -1 → b ∉ T ++ E := fun b hb e9 h9 => by
        rcases IE.2.2.2.2 b (by omega) with ⟨k1, -⟩ | ⟨-, q, hq, k4⟩
        · exact k1 h9
        · rw [k4] at e9
          exact absurd e9 (rn_neg1 (by omega))
      refine u_X13_mapsOf_1 ?_; unfold qm_X13_mapsOf_1
      refine w_rdF hMy.1.1.V (w_nzI (by decide) ?_)
      rw [hV, half_V (by omega)]
      exact w_leF (by omega) (by omega) (w_if (fun _ => w_rdI ml80 rfl (by omega) rfl (w_if (fun _ => c3 _ h5) (fun _ => w_rdI ml61 rfl (by omega) eo (w_rdI ml77 rfl (by omega) rfl (w_if (fun e9 => w_rdI ml61 rfl (by omega) eo (c2 _ _ (Or.inr ⟨o, rfl, ho, un o ho e9⟩))) (fun _ => w_rdI ml62 rfl (by omega) ei (w_rdI ml77 rfl (by omega) rfl (w_if (fun e9 => w_rdI ml62 rfl (by omega) ei (c2 _ _ (Or.inr ⟨i, rfl, hi, un i hi e9⟩))) (fun _ => w_rdI ml63 rfl (by omega) ej (w_rdI ml77 rfl (by omega) rfl (w_if (fun e9 => w_rdI ml63 rfl (by omega) ej (c2 _ _ (Or.inr ⟨j, rfl, hj, un j hj e9⟩))) (fun _ => c2 _ _ (Or.inl rfl))))))))))))) (fun _ => c4 _ _ h5))
  exact c1 c 0 (-1) (by omega) (Or.inl rfl)
theorem u_X13_maps_1 {x1 : Int32} {x2 : Int32} {x3 : Int32} {x4 : Int32} {x5 : Int32} {x6 : Int32} {t0 : Int32} {t1 : Int32} {z : ow_MS} {Q : (Int32 × ow_MS) → Prop} (H : Tt (fun K k => qm_X13_maps_1 K (q_X13_maps K k) x1 x2 x3 x4 x5 x6 t0 t1 z) Q) : Tt (fun K k => q_X13_maps K k 1 x1 x2 x3 x4 x5 x6 t0 t1 z) Q := w_un (fun _ _ => rfl) H
theorem u_X13_maps_2 {x1 : Int32} {x2 : Int32} {x3 : Int32} {x4 : Int32} {x5 : Int32} {x6 : Int32} {t0 : Int32} {t1 : Int32} {z : ow_MS} {Q : (Int32 × ow_MS) → Prop} (H : Tt (fun K k => qm_X13_maps_2 K (q_X13_maps K k) x1 x2 x3 x4 x5 x6 t0 t1 z) Q) : Tt (fun K k => q_X13_maps K k 2 x1 x2 x3 x4 x5 x6 t0 t1 z) Q := w_un (fun _ _ => rfl) H
theorem e_X13_maps {x1 : Int32} {x2 : Int32} {z : ow_MS} {Q : (Int32 × ow_MS) → Prop} (H : Tt (fun K k => q_X13_maps K k 0 x1 x2 0 0 0 0 0 0 z) Q) : Te (fun K => qe_X13_maps K x1 x2 z) Q := w_te H
theorem u_X13_maps_0 {x1 : Int32} {x2 : Int32} {x3 : Int32} {x4 : Int32} {x5 : Int32} {x6 : Int32} {t0 : Int32} {t1 : Int32} {z : ow_MS} {Q : (Int32 × ow_MS) → Prop} (H : Tt (fun K k => qm_X13_maps_0 K (q_X13_maps K k) x1 x2 x3 x4 x5 x6 t0 t1 z) Q) : Tt (fun K k => q_X13_maps K k 0 x1 x2 x3 x4 x5 x6 t0 t1 z) Q := w_un (fun _ _ => rfl) H
theorem u_X13_maps_3 {x1 : Int32} {x2 : Int32} {x3 : Int32} {x4 : Int32} {x5 : Int32} {x6 : Int32} {t0 : Int32} {t1 : Int32} {z : ow_MS} {Q : (Int32 × ow_MS) → Prop} (H : Tt (fun K k => qm_X13_maps_3 K (q_X13_maps K k) x1 x2 x3 x4 x5 x6 t0 t1 z) Q) : Tt (fun K k => q_X13_maps K k 3 x1 x2 x3 x4 x5 x6 t0 t1 z) Q := w_un (fun _ _ => rfl) H
theorem u_X13_maps_7 {x1 : Int32} {x2 : Int32} {x3 : Int32} {x4 : Int32} {x5 : Int32} {x6 : Int32} {t0 : Int32} {t1 : Int32} {z : ow_MS} {Q : (Int32 × ow_MS) → Prop} (H : Tt (fun K k => qm_X13_maps_7 K (q_X13_maps K k) x1 x2 x3 x4 x5 x6 t0 t1 z) Q) : Tt (fun K k => q_X13_maps K k 7 x1 x2 x3 x4 x5 x6 t0 t1 z) Q := w_un (fun _ _ => rfl) H
theorem u_X13_maps_5 {x1 : Int32} {x2 : Int32} {x3 : Int32} {x4 : Int32} {x5 : Int32} {x6 : Int32} {t0 : Int32} {t1 : Int32} {z : ow_MS} {Q : (Int32 × ow_MS) → Prop} (H : Tt (fun K k => qm_X13_maps_5 K (q_X13_maps K k) x1 x2 x3 x4 x5 x6 t0 t1 z) Q) : Tt (fun K k => q_X13_maps K k 5 x1 x2 x3 x4 x5 x6 t0 t1 z) Q := w_un (fun _ _ => rfl) H
theorem u_X13_maps_6 {x1 : Int32} {x2 : Int32} {x3 : Int32} {x4 : Int32} {x5 : Int32} {x6 : Int32} {t0 : Int32} {t1 : Int32} {z : ow_MS} {Q : (Int32 × ow_MS) → Prop} (H : Tt (fun K k => qm_X13_maps_6 K (q_X13_maps K k) x1 x2 x3 x4 x5 x6 t0 t1 z) Q) : Tt (fun K k => q_X13_maps K k 6 x1 x2 x3 x4 x5 x6 t0 t1 z) Q := w_un (fun _ _ => rfl) H
theorem u_X13_maps_4 {x1 : Int32} {x2 : Int32} {x3 : Int32} {x4 : Int32} {x5 : Int32} {x6 : Int32} {t0 : Int32} {t1 : Int32} {z : ow_MS} {Q : (Int32 × ow_MS) → Prop} (H : Tt (fun K k => qm_X13_maps_4 K (q_X13_maps K k) x1 x2 x3 x4 x5 x6 t0 t1 z) Q) : Tt (fun K k => q_X13_maps K k 4 x1 x2 x3 x4 x5 x6 t0 t1 z) Q := w_un (fun _ _ => rfl) H
theorem tp_maps {d k : Int32} (hX : ∀ W, X W → XM W) (h : gI X z) : Te (fun K => qe_X13_maps K d k z) (fun r => gI X r.2) := by
  have h1 := gI_1 (c := 0) h
  have c1 : ∀ {x1 x2 : Int32} {y : ow_MS}, gI X y → Tt (fun K i => q_X13_maps K i 1 x1 x2 0 0 0 0 0 0 y) (fun r => gI X r.2) := by
    intro x1 x2 y hy
    refine u_X13_maps_1 ?_; unfold qm_X13_maps_1
    exact w_fail hy
  have c2 : ∀ {x1 x2 : Int32} {y : ow_MS}, gI X y → Tt (fun K i => q_X13_maps K i 2 x1 x2 0 0 0 0 0 0 y) (fun r => gI X r.2) := by
    intro x1 x2 y hy
    refine u_X13_maps_2 ?_; unfold qm_X13_maps_2
    exact w_fail hy
  refine e_X13_maps ?_
  refine u_X13_maps_0 ?_; unfold qm_X13_maps_0
  refine w_wrF (w_has h1.2.1 (w_ifT rfl (w_fail h1)) (fun e A sg he hx hv hne => w_ifF (by decide) (w_if (fun _ => c1 h1) (fun h0 => w_if (fun h4 => ?_) (fun _ => c1 h1)))))
  subst hx
  obtain ⟨m, hm1, hm4, rfl⟩ : ∃ m, 1 ≤ m ∧ m ≤ 4 ∧ k = nI m := by
    obtain ⟨a, ha, rfl⟩ := nI_of (x := k) (fun h9 => h0 (by
      rw [Int32.lt_iff_toInt_lt] at h9 ⊢
      exact Int.lt_trans h9 (by decide)))
    refine ⟨a, ?_, (nI_leI (b := 4) ha (by omega)).mp h4, rfl⟩
    rcases Nat.eq_zero_or_pos a with h9 | h9
    · exact absurd (show nI a < 1 by rw [h9]; decide) h0
    · exact h9
  refine w_cs0 (to_open pn1 he hv) (fun z2 ⟨o2, f2⟩ => ?_)
  have g2 : gI X z2 := gI_net pn1 f2 (fun g hg => by omega) h1
  have hl := o2.len
  have hC := o2.2.2.2
  refine w_rdF o2.1.V (w_lt (a := 14) (by omega) (by omega) (fun _ => c2 g2) (fun h14 => w_rdF (lk_C o2.1) (w_le (b := 4) (by omega) (by omega) (fun _ => ?_) (fun _ => c2 g2))))
  obtain ⟨c, hok, hc⟩ := o2.2.2.1
  have hV := okF_len hok
  refine w_cs0 (tn_split pn1 (by omega) (by omega) (wkF_ok o2.wk) o2.1) (fun z3 ⟨f3, P, p1, p2, _, _⟩ => ?_)
  have o3 : oNet z3 1000 A sg := oNet_fr f3 (fun g hg => by unfold frP at hg; omega) o2
  have g3 : gI X z3 := gI_net pn1 f3 (fun g hg => by unfold frP at hg; omega) g2
  refine w_cs0 (tp_arcs pn1 o3 hok) (fun z4 ⟨⟨a, ha, hI4⟩, f4⟩ => ?_)
  have o4 : oNet z4 1000 A sg := oNet_fr f4 (fun g hg => by unfold arcH at hg; omega) o3
  have g4 : gI X z4 := gI_fr f4 (fun g hg => by unfold arcH at hg; unfold per; omega) g3
  have hMz : mcI z4 1000 A sg c a := ⟨o4, hI4, hX _ g4.2.2.2.2.2.2⟩
  have hP4 : z4.1 1013 = nI P := by rw [(f4 1013 (by unfold arcH; omega)).1]; exact p1
  let F : Nat → Prop := fun g => 77 ≤ g ∧ g ≤ 80
  have mF : ∀ {y : ow_MS}, fr F z4 y → mcI y 1000 A sg c a := fun hf => mcI_fr pn1 hf (fun g hg => hg) hMz
  have gF : ∀ {y : ow_MS}, fr F z4 y → gI X y := fun hf => gI_fr hf (fun g hg => by have hg : 77 ≤ g ∧ g ≤ 80 := hg; unfold per; omega) g4
  have c3 : ∀ (d p : Nat) (x3 : Int32) (y : ow_MS), p + d = P → fr F z4 y → Tt (fun K i => q_X13_maps K i 3 (nI e) (nI m) x3 (nI p) 0 0 0 0 y) (fun r => gI X r.2) := by
    intro d
    induction d with
    | zero =>
      intro p x3 y hp hf
      refine u_X13_maps_3 ?_; unfold qm_X13_maps_3
      exact w_rdF (x := nI P) (by rw [(hf (1000 + 13) (by show ¬ (77 ≤ 1013 ∧ 1013 ≤ 80); omega)).1]; exact hP4) (w_leT (by omega) (by omega) (w_some (gF hf)))
    | succ d ih =>
      intro p x3 y hp hf
      have c7 : ∀ (x5 x6 t0 : Int32) (y : ow_MS), fr F z4 y → Tt (fun K i => q_X13_maps K i 7 (nI e) (nI m) x3 (nI p) x5 x6 t0 x3 y) (fun r => gI X r.2) := by
        intro x5 x6 t0 y hf
        refine u_X13_maps_7 ?_; unfold qm_X13_maps_7
        rw [nI_1]
        exact ih (p + 1) _ y (by omega) hf
      have c5 : ∀ (d v : Nat) (x5 : Int32) (y : ow_MS), v + d = A.flatten.length → fr F z4 y → (∀ b, b < 40 → y.2.1 77 b = -1) → Tt (fun K i => q_X13_maps K i 5 (nI e) (nI m) x3 (nI p) x5 (nI v) 0 0 y) (fun r => gI X r.2) := by
        intro d
        induction d with
        | zero =>
          intro v x5 y hv hf h77
          refine u_X13_maps_5 ?_; unfold qm_X13_maps_5
          have hf2 : fr F z4 (usF y 79 0) := fr_F2 hf (by show 77 ≤ 79 ∧ 79 ≤ 80; omega)
          refine w_rdF (mF hf).1.1.V (w_leT (by omega) (by omega) (w_wrF (w_if (fun _ => w_rdI ml73 rfl (by omega) rfl (c7 _ _ _ _ hf2)) (fun _ => ?_))))
          have hI0 : mgI (usF y 79 0) a m [] := ⟨po_usF_at, List.nodup_nil, fun b hb => absurd hb List.not_mem_nil, fun i b hb => (by simp at hb), fun b hb => Or.inl ⟨List.not_mem_nil, h77 b hb⟩⟩
          exact w_cs1 (tp_mapsOf pn1 hm1 hm4 hV (by omega) (by omega) (a - ([] : List Nat).length) 42 [] _ (Nat.le_refl _) (by show a - 0 < 42; omega) hI0 (mF hf2)) (fun v1 y1 ⟨_, f5⟩ => c7 _ _ _ y1 (fr_tr hf2 (fr_mono (fun g hg => by unfold gvH at hg; show 77 ≤ g ∧ g ≤ 80; omega) f5)))
        | succ d ih5 =>
          intro v x5 y hv hf h77
          have hvl : v < A.flatten.length := by omega
          have hO := (mF hf).1
          have hcx := (hO.cx hvl).1
          have hcc := (rn_c_in A v hvl).1
          have c6 : ∀ (t0 : Int32), Tt (fun K i => q_X13_maps K i 6 (nI e) (nI m) x3 (nI p) x5 (nI v) t0 0 y) (fun r => gI X r.2) := by
            intro t0
            refine u_X13_maps_6 ?_; unfold qm_X13_maps_6
            rw [nI_1]
            exact w_rdI (pl4 pn1) rfl (by omega) (lk_cu hO.1 hvl).1 (w_wrZ ml80 rfl (by omega) (ih5 (v + 1) _ _ (by omega) (fr_I2 hf (by show 77 ≤ 80 ∧ 80 ≤ 80; omega)) (fun b hb => rd_ot (by omega) (h77 b hb))))
          refine u_X13_maps_5 ?_; unfold qm_X13_maps_5
          exact w_rdF hO.1.V (w_leF (by omega) hvl (w_rdI (pl8 pn1) rfl (by omega) (lk_c hO.1 hvl) (w_rdI (pl12 pn1) rfl (by omega) rfl (w_if (fun _ => c6 _) (fun _ => c6 _)))))
      have c4 : ∀ (d b : Nat) (y : ow_MS), b + d = 40 → fr F z4 y → (∀ t, t < b → y.2.1 77 t = -1) → Tt (fun K i => q_X13_maps K i 4 (nI e) (nI m) x3 (nI p) 0 (nI b) 0 0 y) (fun r => gI X r.2) := by
        intro d
        induction d with
        | zero =>
          intro b y hb hf h77
          refine u_X13_maps_4 ?_; unfold qm_X13_maps_4
          exact w_leT (a := 40) (by omega) (by omega) (c5 A.flatten.length 0 0 y (by omega) hf (fun t ht => h77 t (by omega)))
        | succ d ih4 =>
          intro b y hb hf h77
          refine u_X13_maps_4 ?_; unfold qm_X13_maps_4
          rw [nI_1]
          refine w_leF (a := 40) (by omega) (by omega) (w_wrI ml77 rfl (by omega) (ih4 (b + 1) _ (by omega) (fr_I2 hf (by show 77 ≤ 77 ∧ 77 ≤ 80; omega)) (fun t ht => ?_)))
          by_cases htb : t = b
          · rw [htb, po_usI_at]
          · exact rd_ne htb (h77 t (by omega))
      refine u_X13_maps_3 ?_; unfold qm_X13_maps_3
      exact w_rdF (x := nI P) (by rw [(hf (1000 + 13) (by show ¬ (77 ≤ 1013 ∧ 1013 ≤ 80); omega)).1]; exact hP4) (w_leF (by omega) (by omega) (c4 40 0 y (by omega) hf (fun t ht => absurd ht (by omega))))
  exact c3 P 0 1 z4 (by omega) fr_rf
end MAPS2
end
section
/-! 99zzzq.euler -/
/-! a part with c crossings has at most c + 2 faces -/
theorem itf_in {f : Nat → Nat} {D : Nat → Prop} (hc : ∀ s, D s → D (f s)) {a : Nat} (ha : D a) : ∀ k, D (itf f k a)
  | 0 => ha
  | k + 1 => hc _ (itf_in hc ha k)
theorem itf_sub {f : Nat → Nat} {D : Nat → Prop} (hc : ∀ s, D s → D (f s)) (hi : ∀ s t, D s → D t → f s = f t → s = t) {a : Nat} (ha : D a) : ∀ (i j : Nat), itf f i a = itf f (i + j) a → itf f j a = a
  | 0, j, e => by
    rw [Nat.zero_add] at e
    exact e.symm
  | i + 1, j, e => by
    rw [show i + 1 + j = (i + j) + 1 by omega] at e
    exact itf_sub hc hi ha i j (hi _ _ (itf_in hc ha _) (itf_in hc ha _) e)
/-- a map that is one to one comes back -/
theorem itf_back {f : Nat → Nat} {D : Nat → Prop} {N : Nat} (hN : ∀ s, D s → s < N) (hc : ∀ s, D s → D (f s)) (hi : ∀ s t, D s → D t → f s = f t → s = t) {a : Nat} (ha : D a) : ∃ k, itf f (k + 1) a = a := by
  have key : ¬ ∀ i j, i < N + 1 → j < N + 1 → itf f i a = itf f j a → i = j := fun h => by
    have h1 : ((List.range (N + 1)).map (fun i => itf f i a)).Nodup := nodup_map List.nodup_range (fun i j hi hj e => h i j (List.mem_range.mp hi) (List.mem_range.mp hj) e)
    have := nodup_le _ (List.range N) h1 (fun x hx => by
      obtain ⟨i, -, e⟩ := List.mem_map.mp hx
      rw [← e]
      exact List.mem_range.mpr (hN _ (itf_in hc ha i)))
    rw [List.length_map, List.length_range, List.length_range] at this
    omega
  have h2 : ∃ i j, i < j ∧ itf f i a = itf f j a := Classical.byContradiction (fun h9 => key (fun i j _ _ e => by
    rcases Nat.lt_trichotomy i j with h8 | h8 | h8
    · exact absurd ⟨i, j, h8, e⟩ h9
    · exact h8
    · exact absurd ⟨j, i, h8, e.symm⟩ h9))
  obtain ⟨i, j, hij, e⟩ := h2
  refine ⟨j - i - 1, ?_⟩
  rw [show j - i - 1 + 1 = j - i by omega]
  exact itf_sub hc hi ha i (j - i) (by rw [show i + (j - i) = j by omega]; exact e)
/-- two ends in different rings are exchanged: what the new map keeps the old one keeps -/
theorem untw0 {D : Nat → Prop} {N a b : Nat} {p q : Nat → Nat} {L C : Nat → Nat} (hN : ∀ s, D s → s < N) (hc : ∀ s, D s → D (p s)) (hi : ∀ s t, D s → D t → p s = p t → s = t) (ha : D a) (h1 : ∀ s, s ≠ a → s ≠ b → q s = p s) (hC : ∀ s, D s → C (p s) = C s) (hne : C a ≠ C b) (hL : ∀ s, D s → L (q s) = L s) : L (p a) = L a := by
  have hCi : ∀ k, C (itf p k a) = C a := by
    intro k
    induction k with
    | zero => rfl
    | succ k ih => exact (hC _ (itf_in hc ha k)).trans ih
  have key : ∀ i, L a = L (p a) ∨ L (itf p (i + 1) a) = L (p a) := by
    intro i
    induction i with
    | zero => exact Or.inr rfl
    | succ i ih =>
      rcases ih with h9 | h9
      · exact Or.inl h9
      · by_cases h8 : itf p (i + 1) a = a
        · rw [h8] at h9
          exact Or.inl h9
        · refine Or.inr ?_
          have h7 : itf p (i + 1) a ≠ b := fun e => hne (by rw [← e]; exact (hCi (i + 1)).symm)
          have h6 := hL _ (itf_in hc ha (i + 1))
          rw [h1 _ h8 h7] at h6
          show L (p (itf p (i + 1) a)) = _
          rw [h6, h9]
  obtain ⟨k, hk⟩ := itf_back hN hc hi ha
  rcases key k with h9 | h9
  · exact h9.symm
  · rw [hk] at h9
    exact h9.symm
theorem untw {D : Nat → Prop} {N a b : Nat} {p q : Nat → Nat} {L C : Nat → Nat} (hN : ∀ s, D s → s < N) (hc : ∀ s, D s → D (p s)) (hi : ∀ s t, D s → D t → p s = p t → s = t) (ha : D a) (hb : D b) (h1 : ∀ s, s ≠ a → s ≠ b → q s = p s) (h2 : q a = p b) (h3 : q b = p a) (hC : ∀ s, D s → C (p s) = C s) (hne : C a ≠ C b) (hL : ∀ s, D s → L (q s) = L s) : L a = L b ∧ ∀ s, D s → L (p s) = L s := by
  have ka := untw0 hN hc hi ha h1 hC hne hL
  have kb := untw0 hN hc hi hb (fun s h8 h9 => h1 s h9 h8) hC (fun e => hne e.symm) hL
  have e1 : L (p a) = L b := by rw [← h3]; exact hL b hb
  refine ⟨ka.symm.trans e1, fun s hs => ?_⟩
  by_cases h8 : s = a
  · rw [h8]; exact ka
  · by_cases h9 : s = b
    · rw [h9]; exact kb
    · rw [← h1 s h8 h9]; exact hL s hs
/-! trees of gaps -/
def cls (A : rn_L) : List Nat → Nat → Nat
  | [] => fun x => x
  | g :: T => fun x => if cls A T x = cls A T (crs A g) then cls A T (crs A (rn_nx A g)) else cls A T x
theorem cls_e {A : rn_L} {T : List Nat} {g x y : Nat} (h : cls A T x = cls A T y) : cls A (g :: T) x = cls A (g :: T) y := by
  show (if cls A T x = cls A T (crs A g) then _ else cls A T x) = if cls A T y = cls A T (crs A g) then _ else cls A T y
  rw [h]
theorem cls_m {A : rn_L} {T : List Nat} {g : Nat} : cls A (g :: T) (crs A g) = cls A (g :: T) (crs A (rn_nx A g)) := by
  show (if cls A T (crs A g) = cls A T (crs A g) then cls A T (crs A (rn_nx A g)) else _) = if cls A T (crs A (rn_nx A g)) = cls A T (crs A g) then cls A T (crs A (rn_nx A g)) else cls A T (crs A (rn_nx A g))
  rw [if_pos rfl]
  split <;> rfl
theorem cls_in {A : rn_L} {g : Nat} : ∀ {T : List Nat}, g ∈ T → cls A T (crs A g) = cls A T (crs A (rn_nx A g))
  | [], h => by cases h
  | t :: T, h => by
    rcases List.mem_cons.mp h with h9 | h9
    · rw [h9]; exact cls_m
    · exact cls_e (cls_in h9)
theorem cls_k {A : rn_L} {Y : List Nat} : ∀ (T : List Nat) (k : Nat), (∃ R : List Nat, R.length ≤ k ∧ ∀ x, x ∈ Y → cls A T x ∈ R) → ∃ R : List Nat, R.length ≤ k + T.length ∧ ∀ x, x ∈ Y → x ∈ R
  | [], k, h => h
  | g :: T, k, ⟨R, h1, h2⟩ => by
    obtain ⟨R2, h3, h4⟩ := cls_k T (k + 1) ⟨cls A T (crs A g) :: R, by rw [List.length_cons]; omega, fun x hx => by
      have := h2 x hx
      by_cases h9 : cls A T x = cls A T (crs A g)
      · rw [h9]; exact List.mem_cons_self
      · have this : (if cls A T x = cls A T (crs A g) then cls A T (crs A (rn_nx A g)) else cls A T x) ∈ R := this
        rw [if_neg h9] at this
        exact List.mem_cons_of_mem _ this⟩
    exact ⟨R2, by rw [List.length_cons]; omega, h4⟩
def acy (A : rn_L) : List Nat → Prop
  | [] => True
  | g :: T => g ∉ T ∧ cls A T (crs A g) ≠ cls A T (crs A (rn_nx A g)) ∧ acy A T
def krT (A : rn_L) : List Nat → List Nat
  | [] => []
  | g :: G => if cls A (krT A G) (crs A g) = cls A (krT A G) (crs A (rn_nx A g)) then krT A G else g :: krT A G
theorem krT_in {A : rn_L} {g : Nat} : ∀ {G : List Nat}, g ∈ krT A G → g ∈ G
  | [], h => by cases h
  | t :: G, h => by
    unfold krT at h
    by_cases h9 : cls A (krT A G) (crs A t) = cls A (krT A G) (crs A (rn_nx A t))
    · rw [if_pos h9] at h
      exact List.mem_cons_of_mem _ (krT_in h)
    · rw [if_neg h9] at h
      rcases List.mem_cons.mp h with h8 | h8
      · rw [h8]; exact List.mem_cons_self
      · exact List.mem_cons_of_mem _ (krT_in h8)
theorem krT_acy {A : rn_L} : ∀ {G : List Nat}, G.Nodup → acy A (krT A G) ∧ (krT A G).Nodup
  | [], _ => ⟨trivial, List.nodup_nil⟩
  | t :: G, h => by
    obtain ⟨h1, h2⟩ := List.nodup_cons.mp h
    have ih := krT_acy (A := A) h2
    have hn : t ∉ krT A G := fun h9 => h1 (krT_in h9)
    unfold krT
    by_cases h9 : cls A (krT A G) (crs A t) = cls A (krT A G) (crs A (rn_nx A t))
    · rw [if_pos h9]; exact ih
    · rw [if_neg h9]
      exact ⟨⟨hn, h9, ih.1⟩, List.nodup_cons.mpr ⟨hn, ih.2⟩⟩
theorem krT_all {A : rn_L} {g : Nat} : ∀ {G : List Nat}, g ∈ G → cls A (krT A G) (crs A g) = cls A (krT A G) (crs A (rn_nx A g))
  | [], h => by cases h
  | t :: G, h => by
    unfold krT
    by_cases h9 : cls A (krT A G) (crs A t) = cls A (krT A G) (crs A (rn_nx A t))
    · rw [if_pos h9]
      rcases List.mem_cons.mp h with h8 | h8
      · rw [h8]; exact h9
      · exact krT_all h8
    · rw [if_neg h9]
      rcases List.mem_cons.mp h with h8 | h8
      · rw [h8]; exact cls_m
      · exact cls_e (krT_all h8)
/-! sides -/
def rv2 (s : Nat) : Nat := if s % 2 = 0 then s + 1 else s - 1
theorem rv2_rv2 (s : Nat) : rv2 (rv2 s) = s := by
  unfold rv2
  split <;> split <;> omega
theorem rv2_h (s : Nat) : rv2 s / 2 = s / 2 := by
  unfold rv2
  split <;> omega
theorem hdv_rv2 {A : rn_L} {s : Nat} : hdv A (rv2 s) = tlv A s := by
  unfold hdv tlv
  rw [rv2_h]
  unfold rv2
  by_cases h : s % 2 = 0
  · rw [if_pos h, if_pos h, if_neg (by omega)]
  · rw [if_neg h, if_neg h, if_pos (by omega)]
def piT (A : rn_L) (sg : Nat → Bool) (T : List Nat) (s : Nat) : Nat := phi A sg (if s / 2 ∈ T then s else rv2 s)
/-- a set of visits that is closed -/
def cloS (A : rn_L) (S : Nat → Prop) : Prop := (∀ v, S v → v < A.flatten.length) ∧ (∀ v, S v → S (rn_nx A v)) ∧ (∀ v, S v → S (rn_pv A v)) ∧ ∀ v, S v → S (mtf A v)
section EUL
variable {A : rn_L} {sg : Nat → Bool} {S : Nat → Prop}
theorem clo_hd (hS : cloS A S) {s : Nat} (h : S (s / 2)) : S (hdv A s) := by
  unfold hdv
  split
  · exact hS.2.1 _ h
  · exact h
theorem clo_phi (hS : cloS A S) {s : Nat} (h : S (s / 2)) : S (phi A sg s / 2) := by
  have h1 := hS.2.2.2 _ (clo_hd hS h)
  unfold phi
  split
  · rw [show 2 * mtf A (hdv A s) / 2 = mtf A (hdv A s) by omega]; exact h1
  · rw [show (2 * rn_pv A (mtf A (hdv A s)) + 1) / 2 = rn_pv A (mtf A (hdv A s)) by omega]; exact hS.2.2.1 _ h1
theorem clo_pi (hS : cloS A S) {T : List Nat} {s : Nat} (h : S (s / 2)) : S (piT A sg T s / 2) := by
  unfold piT
  split
  · exact clo_phi hS h
  · exact clo_phi hS (by rw [rv2_h]; exact h)
theorem clo_lt (hS : cloS A S) {s : Nat} (h : S (s / 2)) : s < 2 * A.flatten.length := by
  have := hS.1 _ h
  omega
theorem piT_inj (hd : rn_ok A.flatten) (hS : cloS A S) {T : List Nat} {s t : Nat} (hs : S (s / 2)) (ht : S (t / 2)) (e : piT A sg T s = piT A sg T t) : s = t := by
  unfold piT at e
  have key := phi_inj (sg := sg) hd (s := if s / 2 ∈ T then s else rv2 s) (t := if t / 2 ∈ T then t else rv2 t) (by split; exact clo_lt hS hs; exact clo_lt hS (by rw [rv2_h]; exact hs)) (by split; exact clo_lt hS ht; exact clo_lt hS (by rw [rv2_h]; exact ht)) e
  by_cases h1 : s / 2 ∈ T
  · rw [if_pos h1] at key
    by_cases h2 : t / 2 ∈ T
    · rw [if_pos h2] at key; exact key
    · rw [if_neg h2] at key
      rw [key, rv2_h] at h1
      exact absurd h1 h2
  · rw [if_neg h1] at key
    by_cases h2 : t / 2 ∈ T
    · rw [if_pos h2] at key
      rw [← key, rv2_h] at h2
      exact absurd h2 h1
    · rw [if_neg h2] at key
      have := congrArg rv2 key
      rw [rv2_rv2, rv2_rv2] at this
      exact this
/-- the tree's map keeps the class of a side's crossing -/
theorem piT_cls (hd : rn_ok A.flatten) (hS : cloS A S) {T : List Nat} {s : Nat} (hs : S (s / 2)) : cls A T (crs A (tlv A (piT A sg T s))) = cls A T (crs A (tlv A s)) := by
  unfold piT
  by_cases h : s / 2 ∈ T
  · rw [if_pos h, phi_tl hd (clo_lt hS hs), crs_mtf hd (hdv_lt (clo_lt hS hs))]
    have := cls_in (A := A) h
    unfold hdv tlv
    by_cases h2 : s % 2 = 0
    · rw [if_pos h2, if_pos h2]; exact this.symm
    · rw [if_neg h2, if_neg h2]; exact this
  · have hs2 : S (rv2 s / 2) := by rw [rv2_h]; exact hs
    rw [if_neg h, phi_tl hd (clo_lt hS hs2), crs_mtf hd (hdv_lt (clo_lt hS hs2)), hdv_rv2]
theorem tree_L (hd : rn_ok A.flatten) (hS : cloS A S) {L : Nat → Nat} : ∀ (T : List Nat), acy A T → (∀ g, g ∈ T → S g) → (∀ s, S (s / 2) → L (piT A sg T s) = L s) → (∀ g, g ∈ T → L (2 * g) = L (2 * g + 1)) ∧ ∀ s, S (s / 2) → L (piT A sg [] s) = L s
  | [], _, _, h => ⟨fun g hg => absurd hg List.not_mem_nil, h⟩
  | g :: T, ha, hT, h => by
    obtain ⟨a1, a2, a3⟩ := ha
    have hg : S g := hT g List.mem_cons_self
    have d1 : (2 * g) / 2 = g := by omega
    have d2 : (2 * g + 1) / 2 = g := by omega
    have e1 : rv2 (2 * g) = 2 * g + 1 := by unfold rv2; rw [if_pos (by omega)]
    have e2 : rv2 (2 * g + 1) = 2 * g := by unfold rv2; rw [if_neg (by omega)]; omega
    have key := untw (D := fun s => S (s / 2)) (N := 2 * A.flatten.length) (a := 2 * g) (b := 2 * g + 1) (p := piT A sg T) (q := piT A sg (g :: T)) (L := L) (C := fun s => cls A T (crs A (tlv A s))) (fun s hs => clo_lt hS hs) (fun s hs => clo_pi hS hs) (fun s t hs ht e => piT_inj hd hS hs ht e) (by show S (2 * g / 2); rw [d1]; exact hg) (by show S ((2 * g + 1) / 2); rw [d2]; exact hg) (fun s h8 h9 => by
      have hne : s / 2 ≠ g := fun e => by omega
      unfold piT
      by_cases h7 : s / 2 ∈ T
      · rw [if_pos h7, if_pos (List.mem_cons_of_mem _ h7)]
      · rw [if_neg h7, if_neg (fun h6 => by
          rcases List.mem_cons.mp h6 with h5 | h5
          · exact hne h5
          · exact h7 h5)]) (by
      unfold piT
      rw [d1, d2, if_pos List.mem_cons_self, if_neg a1, e2]) (by
      unfold piT
      rw [d1, d2, if_pos List.mem_cons_self, if_neg a1, e1]) (fun s hs => piT_cls hd hS hs) (by
      show cls A T (crs A (tlv A (2 * g))) ≠ cls A T (crs A (tlv A (2 * g + 1)))
      unfold tlv
      rw [if_pos (by omega), if_neg (by omega), d1, d2]
      exact a2) h
    obtain ⟨k1, k2⟩ := tree_L hd hS T a3 (fun t ht => hT t (List.mem_cons_of_mem _ ht)) key.2
    refine ⟨fun t ht => ?_, k2⟩
    rcases List.mem_cons.mp ht with h9 | h9
    · rw [h9]; exact key.1
    · exact k1 t h9
theorem smv_mt (hF : wkF A.flatten) {w : Nat} (hw : w < A.flatten.length) : smv A sg (mtf A w) = !smv A sg w := by
  have hd := wkF_ok hF
  have hc := crs_mtf hd hw
  have hml := mtf_lt hd hw
  have u1 := (hF.2 _ (List.mem_of_getElem? (vAt_of hw))).2.1
  have u2 := (hF.2 _ (List.mem_of_getElem? (vAt_of hml))).2.1
  have u3 : uns A (mtf A w) = 1 - uns A w := by
    by_cases h : uns A w = 0
    · have := mtf_uns hF hml (v := mtf A w)
      rw [mtf_mtf hd hw] at this
      have h2 : uns A (mtf A w) ≠ 0 := fun e => by
        refine mtf_ne hd hw (nodup_at hF.1 (vAt_of hml) ?_)
        rw [vAt_of hw]
        congr 1
        exact Prod.ext hc.symm (h.trans e.symm)
      have u2 : uns A (mtf A w) < 2 := u2
      omega
    · rw [mtf_uns hF hw h]
      have u1 : uns A w < 2 := u1
      omega
  unfold smv
  rw [hc, u3]
  have u1 : uns A w < 2 := u1
  rcases Nat.lt_or_ge (uns A w) 1 with h | h
  · have h0 : uns A w = 0 := by omega
    rw [h0]
    cases sg (crs A w) <;> rfl
  · have h0 : uns A w = 1 := by omega
    rw [h0]
    cases sg (crs A w) <;> rfl
/-- a label of sides that is kept by the faces and across all gaps is one label around each crossing -/
theorem lab_x (hF : wkF A.flatten) (hS : cloS A S) {L : Nat → Nat} (h1 : ∀ s, S (s / 2) → L (phi A sg s) = L s) (h2 : ∀ g, S g → L (2 * g) = L (2 * g + 1)) : ∀ w, S w → L (2 * rn_pv A w) = L (2 * w) ∧ L (2 * mtf A w) = L (2 * w) := by
  have hd := wkF_ok hF
  have fwd : ∀ w, S w → L (2 * rn_pv A w) = if smv A sg w then L (2 * mtf A w) else L (2 * rn_pv A (mtf A w)) := by
    intro w hw
    have hp := hS.2.2.1 w hw
    have hm := hS.2.2.2 w hw
    have e1 := h1 (2 * rn_pv A w) (by rw [show 2 * rn_pv A w / 2 = rn_pv A w by omega]; exact hp)
    have e2 : hdv A (2 * rn_pv A w) = w := by
      unfold hdv
      rw [if_pos (by omega), show 2 * rn_pv A w / 2 = rn_pv A w by omega, nx_pv (hS.1 w hw)]
    rw [← e1]
    unfold phi wyv
    rw [e2]
    cases smv A sg w with
    | true => 
      rw [if_pos rfl, if_pos rfl, if_pos (by omega)]
    | false =>
      show L (if 1 - 2 * rn_pv A w % 2 = 0 then 2 * mtf A w else 2 * rn_pv A (mtf A w) + 1) = L (2 * rn_pv A (mtf A w))
      rw [if_neg (by omega)]
      exact (h2 _ (hS.2.2.1 _ hm)).symm
  have bwd : ∀ w, S w → L (2 * w) = if smv A sg w then L (2 * rn_pv A (mtf A w)) else L (2 * mtf A w) := by
    intro w hw
    have hm := hS.2.2.2 w hw
    have e1 := h1 (2 * w + 1) (by rw [show (2 * w + 1) / 2 = w by omega]; exact hw)
    have e2 : hdv A (2 * w + 1) = w := by
      unfold hdv
      rw [if_neg (by omega)]
      omega
    rw [h2 w hw, ← e1]
    unfold phi wyv
    rw [e2]
    cases smv A sg w with
    | true =>
      rw [if_pos rfl, if_pos rfl, if_neg (by omega)]
      exact (h2 _ (hS.2.2.1 _ hm)).symm
    | false =>
      show L (if 1 - (2 * w + 1) % 2 = 0 then 2 * mtf A w else 2 * rn_pv A (mtf A w) + 1) = L (2 * mtf A w)
      rw [if_pos (by omega)]
  intro w hw
  have hm := hS.2.2.2 w hw
  have f1 := fwd w hw
  have f2 := fwd _ hm
  have b1 := bwd w hw
  have b2 := bwd _ hm
  rw [smv_mt hF (hS.1 w hw), mtf_mtf hd (hS.1 w hw)] at f2 b2
  cases hsm : smv A sg w with
  | true =>
    rw [hsm, if_pos rfl] at f1 b1
    rw [hsm, if_neg (by decide)] at f2 b2
    exact ⟨by rw [f1, b2], b2⟩
  | false =>
    rw [hsm, if_neg (by decide)] at f1 b1
    rw [hsm, if_pos (by rfl)] at f2 b2
    exact ⟨by rw [← b2, b1], b1.symm⟩
/-- a visit of part p -/
def inP (A : rn_L) (M : Nat → Int32) (p v : Nat) : Prop := v < A.flatten.length ∧ M (rn_c A v) = nI p
theorem c_nx {v : Nat} (hv : v < A.flatten.length) : rn_c A (rn_nx A v) = rn_c A v := by
  obtain ⟨h1, h2, h3⟩ := rn_c_in A v hv
  refine rn_c_of A _ _ ?_ ?_
  · unfold rn_nx; split <;> omega
  · unfold rn_nx; split <;> omega
theorem c_pv {v : Nat} (hv : v < A.flatten.length) : rn_c A (rn_pv A v) = rn_c A v := by
  obtain ⟨h1, h2, h3⟩ := rn_c_in A v hv
  refine rn_c_of A _ _ ?_ ?_
  · unfold rn_pv; split <;> omega
  · unfold rn_pv; split <;> omega
theorem inP_clo {M : Nat → Int32} {P p : Nat} (hd : rn_ok A.flatten) (hM : rn_SD A M P) (hp : p < P) : cloS A (inP A M p) := by
  refine ⟨fun v h => h.1, fun v h => ⟨rn_nx_lt h.1, by rw [c_nx h.1]; exact h.2⟩, fun v h => ⟨rn_pv_lt h.1, by rw [c_pv h.1]; exact h.2⟩, fun v h => ⟨mtf_lt hd h.1, hM.2.1 _ _ p hp ⟨v, mtf A v, mtf_mt hd h.1, rfl, rfl⟩ h.2⟩⟩
/-- what stays along the rings and through the crossings is one over a part -/
theorem inP_one {M : Nat → Int32} {P p : Nat} {f : Nat → Nat} (hd : rn_ok A.flatten) (hM : rn_SD A M P) (hp : p < P) (h1 : ∀ v, inP A M p v → f (rn_pv A v) = f v) (h2 : ∀ v, inP A M p v → f (mtf A v) = f v) {v w : Nat} (hv : inP A M p v) (hw : inP A M p w) : f v = f w := by
  have ring : ∀ v, inP A M p v → f v = f (rn_b A (rn_c A v)) := by
    intro v
    induction v using Nat.strongRecOn with
    | ind v ih =>
    intro hv
    obtain ⟨g1, g2, g3⟩ := rn_c_in A v hv.1
    by_cases hb : rn_b A (rn_c A v) = v
    · rw [hb]
    · have e1 : rn_pv A v = v - 1 := by
        unfold rn_pv
        rw [if_pos (by omega)]
      have h4 := h1 v hv
      rw [e1] at h4
      have e2 : rn_c A (v - 1) = rn_c A v := rn_c_of A _ _ (by omega) (by omega)
      have := ih (v - 1) (by omega) ⟨by have := hv.1; omega, by rw [e2]; exact hv.2⟩
      rw [e2] at this
      rw [← h4, this]
  have hc1 := (rn_c_in A v hv.1).1
  have hc2 := (rn_c_in A w hw.1).1
  have hcon := hM.2.2.1 _ _ p hp hc1 hc2 hv.2 hw.2
  have key := hcon (fun x => M x = nI p ∧ ∀ u, u < A.flatten.length → rn_c A u = x → f u = f v) ⟨hv.2, fun u hu e => by
    have hu2 : inP A M p u := ⟨hu, by rw [e]; exact hv.2⟩
    rw [ring u hu2, ring v hv, e]⟩ (fun x y ⟨hx1, hx2⟩ hxy => by
    have hy1 := hM.2.1 x y p hp hxy hx1
    obtain ⟨a, b, hab, ea, eb⟩ := hxy
    have hal := (rn_mt_lt hab).1
    have hbl := (rn_mt_lt hab).2
    refine ⟨hy1, fun u hu e => ?_⟩
    have hu2 : inP A M p u := ⟨hu, by rw [e]; exact hy1⟩
    have hb2 : inP A M p b := ⟨hbl, by rw [eb]; exact hy1⟩
    have ha2 : inP A M p a := ⟨hal, by rw [ea]; exact hx1⟩
    rw [ring u hu2, e, ← eb, ← ring b hb2, ← mtf_eq hd hab, h2 a ha2]
    exact hx2 a hal ea)
  exact (key.2 w hw.1 rfl).symm
theorem mgL_kP {D : Nat → Prop} : ∀ (E : List (Nat × Nat)) (L : Nat → Nat) (k : Nat), (∃ R : List Nat, R.length ≤ k ∧ ∀ x, D x → mgL L E x ∈ R) → ∃ R : List Nat, R.length ≤ k + E.length ∧ ∀ x, D x → L x ∈ R
  | [], L, k, h => h
  | (a, b) :: E, L, k, h => by
    obtain ⟨R, h1, h2⟩ := mgL_kP E _ k h
    refine ⟨L a :: R, by rw [List.length_cons, List.length_cons]; omega, fun x hx => ?_⟩
    have := h2 x hx
    by_cases h9 : L x = L a
    · rw [h9]; exact List.mem_cons_self
    · have this : (if L x = L a then L b else L x) ∈ R := this
      rw [if_neg h9] at this
      exact List.mem_cons_of_mem _ this
/-- Euler: a part's faces are at most its crossings and two -/
theorem euler {M : Nat → Int32} {P p c : Nat} {f : Nat → Nat} (hok : okF A.flatten c) (hc40 : c ≤ 40) (hM : rn_SD A M P) (hp : p < P) (hf : ∀ s, s < 2 * A.flatten.length → f (phi A sg s) = f s) {v0 : Nat} (hv0 : inP A M p v0) : ∃ R : List Nat, R.length ≤ c + 2 ∧ ∀ s, inP A M p (s / 2) → f s ∈ R := by
  have hF := okF_wk hc40 hok
  have hd := wkF_ok hF
  have hS := inP_clo hd hM hp
  let S := inP A M p
  let G := (List.range A.flatten.length).filter (fun v => decide (M (rn_c A v) = nI p))
  have hG : ∀ v, v ∈ G ↔ S v := fun v => by
    rw [List.mem_filter, List.mem_range, decide_eq_true_iff]
    exact Iff.rfl
  have hGn : G.Nodup := List.nodup_range.filter _
  let T := krT A G
  obtain ⟨hTa, hTn⟩ := krT_acy (A := A) hGn
  have hTS : ∀ g, g ∈ T → S g := fun g hg => (hG g).mp (krT_in hg)
  let E := G.filter (fun g => !decide (g ∈ T))
  let L := mgL f (E.map (fun g => (2 * g, 2 * g + 1)))
  have L1 : ∀ s, S (s / 2) → L (phi A sg s) = L s := fun s hs => mgL_e _ f _ _ (hf s (clo_lt hS hs))
  have L2 : ∀ g, S g → g ∉ T → L (2 * g) = L (2 * g + 1) := fun g hg hn => mgL_m _ f _ _ (List.mem_map.mpr ⟨g, List.mem_filter.mpr ⟨(hG g).mpr hg, by rw [decide_eq_false hn]; rfl⟩, rfl⟩)
  have L2' : ∀ s, S (s / 2) → s / 2 ∉ T → L (rv2 s) = L s := by
    intro s hs hn
    have := L2 _ hs hn
    unfold rv2
    by_cases h : s % 2 = 0
    · rw [if_pos h, show s + 1 = 2 * (s / 2) + 1 by omega, ← this]
      congr 1
      omega
    · rw [if_neg h, show s - 1 = 2 * (s / 2) by omega, this]
      congr 1
      omega
  have L3 : ∀ s, S (s / 2) → L (piT A sg T s) = L s := by
    intro s hs
    unfold piT
    by_cases h : s / 2 ∈ T
    · rw [if_pos h]; exact L1 s hs
    · rw [if_neg h, L1 (rv2 s) (by rw [rv2_h]; exact hs)]
      exact L2' s hs h
  obtain ⟨t1, -⟩ := tree_L hd hS T hTa hTS L3
  have L4 : ∀ g, S g → L (2 * g) = L (2 * g + 1) := fun g hg => by
    by_cases h : g ∈ T
    · exact t1 g h
    · exact L2 g hg h
  have lx := lab_x hF hS L1 L4
  have one : ∀ v w, S v → S w → L (2 * v) = L (2 * w) := fun v w hv hw => inP_one (f := fun v => L (2 * v)) hd hM hp (fun v hv => (lx v hv).1) (fun v hv => (lx v hv).2) hv hw
  have cl1 : ∀ v w, S v → S w → cls A T (crs A v) = cls A T (crs A w) := fun v w hv hw => inP_one (f := fun v => cls A T (crs A v)) hd hM hp (fun v hv => by
    show cls A T (crs A (rn_pv A v)) = cls A T (crs A v)
    have := krT_all (A := A) ((hG _).mpr (hS.2.2.1 v hv))
    rw [nx_pv hv.1] at this
    exact this) (fun v hv => by
    show cls A T (crs A (mtf A v)) = cls A T (crs A v)
    rw [crs_mtf hd hv.1]) hv hw
  -- the crossings of the part
  let O := G.filter (fun v => decide (uns A v = 0))
  let Y := O.map (crs A)
  have hO : ∀ v, v ∈ O ↔ S v ∧ uns A v = 0 := fun v => by
    rw [List.mem_filter, hG, decide_eq_true_iff]
  have hYn : Y.Nodup := by
    refine nodup_map (hGn.filter _) (fun i j hi hj e => ?_)
    obtain ⟨i1, i2⟩ := (hO i).mp hi
    obtain ⟨j1, j2⟩ := (hO j).mp hj
    refine nodup_at hF.1 (vAt_of i1.1) (?_ : A.flatten[j]? = some (vAt A i))
    rw [vAt_of j1.1, show vAt A j = vAt A i from Prod.ext e.symm (j2.trans i2.symm)]
  have hYc : Y.length ≤ c := by
    have := nodup_le Y (List.range c) hYn (fun x hx => by
      obtain ⟨v, hv, e⟩ := List.mem_map.mp hx
      rw [← e]
      exact List.mem_range.mpr ((hok.2 _).mp (List.mem_of_getElem? (vAt_of ((hO v).mp hv).1.1))).1)
    rw [List.length_range] at this
    exact this
  have hYT : Y.length ≤ 1 + T.length := by
    obtain ⟨R, r1, r2⟩ := cls_k (A := A) (Y := Y) T 1 ⟨[cls A T (crs A v0)], Nat.le_refl _, fun x hx => by
      obtain ⟨v, hv, e⟩ := List.mem_map.mp hx
      rw [← e, cl1 v v0 ((hO v).mp hv).1 hv0]
      exact List.mem_singleton.mpr rfl⟩
    have := nodup_le Y R hYn r2
    omega
  have hGY : G.length ≤ 2 * Y.length := by
    have h1 := filt_sum (fun v => decide (uns A v = 0)) G
    have h2 : (G.filter (fun v => !decide (uns A v = 0))).length ≤ O.length := by
      have hn : ((G.filter (fun v => !decide (uns A v = 0))).map (mtf A)).Nodup := nodup_map (hGn.filter _) (fun i j hi hj e => by
        have hi := ((hG i).mp (List.mem_filter.mp hi).1).1
        have hj := ((hG j).mp (List.mem_filter.mp hj).1).1
        have := congrArg (mtf A) e
        rw [mtf_mtf hd hi, mtf_mtf hd hj] at this
        exact this)
      have := nodup_le _ O hn (fun x hx => by
        obtain ⟨v, hv, e⟩ := List.mem_map.mp hx
        obtain ⟨hv1, hv2⟩ := List.mem_filter.mp hv
        have hv1 := (hG v).mp hv1
        have hu : uns A v ≠ 0 := fun h9 => by rw [h9] at hv2; exact absurd hv2 (by decide)
        rw [← e]
        exact (hO _).mpr ⟨hS.2.2.2 v hv1, mtf_uns hF hv1.1 hu⟩)
      rw [List.length_map] at this
      exact this
    have h3 : Y.length = O.length := List.length_map _
    have h4 : (G.filter (fun v => decide (uns A v = 0))).length = O.length := rfl
    omega
  have hET : E.length + T.length ≤ G.length := by
    have h1 := filt_sum (fun g => decide (g ∈ T)) G
    have h2 := nodup_le T (G.filter (fun g => decide (g ∈ T))) hTn (fun g hg => List.mem_filter.mpr ⟨krT_in hg, decide_eq_true hg⟩)
    have h3 : E.length = (G.filter (fun g => !decide (g ∈ T))).length := rfl
    omega
  obtain ⟨R, r1, r2⟩ := mgL_kP (D := fun s => S (s / 2)) (E.map (fun g => (2 * g, 2 * g + 1))) f 1 ⟨[L (2 * v0)], Nat.le_refl _, fun s hs => by
    have e1 : L s = L (2 * (s / 2)) := by
      by_cases h : s % 2 = 0
      · congr 1; omega
      · rw [L4 _ hs]; congr 1; omega
    show L s ∈ _
    rw [e1, one _ v0 hs hv0]
    exact List.mem_singleton.mpr rfl⟩
  rw [List.length_map] at r1
  exact ⟨R, by omega, r2⟩
end EUL
end
section
/-! 99zzzr.sign -/
/-! signature has an answer -/
section SIG
variable {X : (Nat → Nat → Int32) → Prop} {z : ow_MS}
theorem s16_ix {x y : Nat} : (16 : Int32) * nI x + nI y = nI (16 * x + y) := by
  rw [show (16 : Int32) * nI x = nI (16 * x) from pk_mul 16 x, nI_add]
theorem u_X13_times_1 {x1 : Int32} {x2 : Int32} {x3 : Int32} {x6 : Int32} {w4 : Int64} {z : ow_MS} {Q : ow_MS → Prop} (H : Tt (fun K k => qm_X13_times_1 K (q_X13_times K k) x1 x2 x3 x6 w4 z) Q) : Tt (fun K k => q_X13_times K k 1 x1 x2 x3 x6 w4 z) Q := w_un (fun _ _ => rfl) H
theorem u_X13_times_2 {x1 : Int32} {x2 : Int32} {x3 : Int32} {x6 : Int32} {w4 : Int64} {z : ow_MS} {Q : ow_MS → Prop} (H : Tt (fun K k => qm_X13_times_2 K (q_X13_times K k) x1 x2 x3 x6 w4 z) Q) : Tt (fun K k => q_X13_times K k 2 x1 x2 x3 x6 w4 z) Q := w_un (fun _ _ => rfl) H
theorem u_X13_times_3 {x1 : Int32} {x2 : Int32} {x3 : Int32} {x6 : Int32} {w4 : Int64} {z : ow_MS} {Q : ow_MS → Prop} (H : Tt (fun K k => qm_X13_times_3 K (q_X13_times K k) x1 x2 x3 x6 w4 z) Q) : Tt (fun K k => q_X13_times K k 3 x1 x2 x3 x6 w4 z) Q := w_un (fun _ _ => rfl) H
theorem e_X13_times {x1 : Int32} {z : ow_MS} {Q : ow_MS → Prop} (H : Tt (fun K k => q_X13_times K k 0 x1 0 0 0 0 z) Q) : Te (fun K => qe_X13_times K x1 z) Q := w_te H
theorem u_X13_times_0 {x1 : Int32} {x2 : Int32} {x3 : Int32} {x6 : Int32} {w4 : Int64} {z : ow_MS} {Q : ow_MS → Prop} (H : Tt (fun K k => qm_X13_times_0 K (q_X13_times K k) x1 x2 x3 x6 w4 z) Q) : Tt (fun K k => q_X13_times K k 0 x1 x2 x3 x6 w4 z) Q := w_un (fun _ _ => rfl) H
theorem tp_times {n : Nat} (hn : n ≤ 16) : Te (fun K => qe_X13_times K (nI n) z) (fun z1 => fr (fun g => g = 55) z z1) := by
  let Q : ow_MS → Prop := fun z1 => fr (fun g => g = 55) z z1
  have c1 : ∀ (d i : Nat) (y : ow_MS), i + d = n → fr (fun g => g = 55) z y → Tt (fun K k => q_X13_times K k 1 (nI n) (nI i) 0 0 0 y) Q := by
    intro d
    induction d with
    | zero =>
      intro i y hi hf
      refine u_X13_times_1 ?_; unfold qm_X13_times_1
      exact w_leT (by omega) (by omega) (w_some hf)
    | succ d ih =>
      intro i y hi hf
      have c2 : ∀ (d2 j : Nat) (y : ow_MS), j + d2 = n → fr (fun g => g = 55) z y → Tt (fun K k => q_X13_times K k 2 (nI n) (nI i) (nI j) 0 0 y) Q := by
        intro d2
        induction d2 with
        | zero =>
          intro j y hj hf
          refine u_X13_times_2 ?_; unfold qm_X13_times_2
          rw [nI_1]
          exact w_leT (by omega) (by omega) (ih (i + 1) y (by omega) hf)
        | succ d2 ih2 =>
          intro j y hj hf
          have c3 : ∀ (d3 k : Nat) (w : Int64), k + d3 = n → Tt (fun K t => q_X13_times K t 3 (nI n) (nI i) (nI j) (nI k) w y) Q := by
            intro d3
            induction d3 with
            | zero =>
              intro k w hk
              refine u_X13_times_3 ?_; unfold qm_X13_times_3
              rw [s16_ix, show nI j + 1 = nI (j + 1) from nI_1 _]
              exact w_leT (by omega) (by omega) (w_wrJ ml55 rfl (by omega) (ih2 (j + 1) _ (by omega) (fr_J2 hf rfl)))
            | succ d3 ih3 =>
              intro k w hk
              refine u_X13_times_3 ?_; unfold qm_X13_times_3
              rw [s16_ix, s16_ix, s16_ix, show nI k + 1 = nI (k + 1) from nI_1 _]
              exact w_leF (by omega) (by omega) (w_rdJ ml54 rfl (by omega) rfl (w_rdJ ml56 rfl (by omega) rfl (ih3 (k + 1) _ (by omega))))
          refine u_X13_times_2 ?_; unfold qm_X13_times_2
          exact w_leF (by omega) (by omega) (c3 n 0 0 (by omega))
      refine u_X13_times_1 ?_; unfold qm_X13_times_1
      exact w_leF (by omega) (by omega) (c2 n 0 y (by omega) hf)
  refine e_X13_times ?_
  refine u_X13_times_0 ?_; unfold qm_X13_times_0
  exact c1 n 0 z (by omega) fr_rf
theorem u_X13_changes_1 {x1 : Int32} {x2 : Int32} {x3 : Int32} {x4 : Int32} {x5 : Int32} {x6 : Int32} {t0 : Int32} {t1 : Int32} {z : ow_MS} {Q : (Int32 × ow_MS) → Prop} (H : Tt (fun K k => qm_X13_changes_1 K (q_X13_changes K k) x1 x2 x3 x4 x5 x6 t0 t1 z) Q) : Tt (fun K k => q_X13_changes K k 1 x1 x2 x3 x4 x5 x6 t0 t1 z) Q := w_un (fun _ _ => rfl) H
theorem u_X13_changes_5 {x1 : Int32} {x2 : Int32} {x3 : Int32} {x4 : Int32} {x5 : Int32} {x6 : Int32} {t0 : Int32} {t1 : Int32} {z : ow_MS} {Q : (Int32 × ow_MS) → Prop} (H : Tt (fun K k => qm_X13_changes_5 K (q_X13_changes K k) x1 x2 x3 x4 x5 x6 t0 t1 z) Q) : Tt (fun K k => q_X13_changes K k 5 x1 x2 x3 x4 x5 x6 t0 t1 z) Q := w_un (fun _ _ => rfl) H
theorem u_X13_changes_4 {x1 : Int32} {x2 : Int32} {x3 : Int32} {x4 : Int32} {x5 : Int32} {x6 : Int32} {t0 : Int32} {t1 : Int32} {z : ow_MS} {Q : (Int32 × ow_MS) → Prop} (H : Tt (fun K k => qm_X13_changes_4 K (q_X13_changes K k) x1 x2 x3 x4 x5 x6 t0 t1 z) Q) : Tt (fun K k => q_X13_changes K k 4 x1 x2 x3 x4 x5 x6 t0 t1 z) Q := w_un (fun _ _ => rfl) H
theorem u_X13_changes_3 {x1 : Int32} {x2 : Int32} {x3 : Int32} {x4 : Int32} {x5 : Int32} {x6 : Int32} {t0 : Int32} {t1 : Int32} {z : ow_MS} {Q : (Int32 × ow_MS) → Prop} (H : Tt (fun K k => qm_X13_changes_3 K (q_X13_changes K k) x1 x2 x3 x4 x5 x6 t0 t1 z) Q) : Tt (fun K k => q_X13_changes K k 3 x1 x2 x3 x4 x5 x6 t0 t1 z) Q := w_un (fun _ _ => rfl) H
theorem u_X13_changes_2 {x1 : Int32} {x2 : Int32} {x3 : Int32} {x4 : Int32} {x5 : Int32} {x6 : Int32} {t0 : Int32} {t1 : Int32} {z : ow_MS} {Q : (Int32 × ow_MS) → Prop} (H : Tt (fun K k => qm_X13_changes_2 K (q_X13_changes K k) x1 x2 x3 x4 x5 x6 t0 t1 z) Q) : Tt (fun K k => q_X13_changes K k 2 x1 x2 x3 x4 x5 x6 t0 t1 z) Q := w_un (fun _ _ => rfl) H
theorem e_X13_changes {x1 : Int32} {x2 : Int32} {z : ow_MS} {Q : (Int32 × ow_MS) → Prop} (H : Tt (fun K k => q_X13_changes K k 0 x1 x2 0 0 0 0 0 0 z) Q) : Te (fun K => qe_X13_changes K x1 x2 z) Q := w_te H
theorem u_X13_changes_0 {x1 : Int32} {x2 : Int32} {x3 : Int32} {x4 : Int32} {x5 : Int32} {x6 : Int32} {t0 : Int32} {t1 : Int32} {z : ow_MS} {Q : (Int32 × ow_MS) → Prop} (H : Tt (fun K k => qm_X13_changes_0 K (q_X13_changes K k) x1 x2 x3 x4 x5 x6 t0 t1 z) Q) : Tt (fun K k => q_X13_changes K k 0 x1 x2 x3 x4 x5 x6 t0 t1 z) Q := w_un (fun _ _ => rfl) H
theorem tp_changes {n : Nat} {b : Int32} (hn : n ≤ 19) : Te (fun K => qe_X13_changes K (nI n) b z) (fun r => r.2 = z) := by
  have c1 : ∀ (d : Nat) (x3 x4 : Int32), d ≤ n + 1 → Tt (fun K k => q_X13_changes K k 1 (nI n) b x3 x4 (iI ((d : Int) - 1)) 0 0 0 z) (fun r => r.2 = z) := by
    intro d
    induction d with
    | zero =>
      intro x3 x4 _
      refine u_X13_changes_1 ?_; unfold qm_X13_changes_1
      exact w_ifT (by show iI (-1) < iI 0; rw [iI_lt (by omega) (by omega) (by omega) (by omega)]; omega) (w_some rfl)
    | succ d ih =>
      intro x3 x4 hd
      have e1 : iI (((d + 1 : Nat) : Int) - 1) = nI d := iI_nI (by omega)
      have e2 : nI d + (-1) = iI ((d : Int) - 1) := by
        rw [nI_iI]
        show iI (d : Int) + iI (-1) = _
        rw [iI_add]
        rfl
      rw [e1]
      have c5 : ∀ (x3 x4 x6 : Int32), Tt (fun K k => q_X13_changes K k 5 (nI n) b x3 x4 (nI d) x6 0 0 z) (fun r => r.2 = z) := by
        intro x3 x4 x6
        refine u_X13_changes_5 ?_; unfold qm_X13_changes_5
        rw [e2]
        exact ih _ _ (by omega)
      have c4 : ∀ (x3 x4 x6 t0 t1 : Int32), Tt (fun K k => q_X13_changes K k 4 (nI n) b x3 x4 (nI d) x6 t0 t1 z) (fun r => r.2 = z) := by
        intro x3 x4 x6 t0 t1
        refine u_X13_changes_4 ?_; unfold qm_X13_changes_4
        exact c5 _ _ _
      have c3 : ∀ (x3 x4 x6 t0 : Int32), Tt (fun K k => q_X13_changes K k 3 (nI n) b x3 x4 (nI d) x6 t0 0 z) (fun r => r.2 = z) := by
        intro x3 x4 x6 t0
        refine u_X13_changes_3 ?_; unfold qm_X13_changes_3
        exact c4 _ _ _ _ _
      have c2 : ∀ (x3 x4 x6 : Int32), Tt (fun K k => q_X13_changes K k 2 (nI n) b x3 x4 (nI d) x6 0 0 z) (fun r => r.2 = z) := by
        intro x3 x4 x6
        refine u_X13_changes_2 ?_; unfold qm_X13_changes_2
        exact w_if (fun _ => c5 _ _ _) (fun _ => w_if (fun _ => c3 _ _ _ _) (fun _ => w_if (fun _ => c3 _ _ _ _) (fun _ => c4 _ _ _ _ _)))
      refine u_X13_changes_1 ?_; unfold qm_X13_changes_1
      exact w_ifF (fun h9 => absurd h9 (nI_pos (by omega))) (w_rdJ ml57 rfl (by omega) rfl (w_if (fun _ => c2 _ _ _) (fun _ => w_if (fun _ => c2 _ _ _) (fun _ => c2 _ _ _))))
  refine e_X13_changes ?_
  refine u_X13_changes_0 ?_; unfold qm_X13_changes_0
  have := c1 (n + 1) 0 0 (Nat.le_refl _)
  rw [show iI (((n + 1 : Nat) : Int) - 1) = nI n from iI_nI (by omega)] at this
  exact this
abbrev rtH (g : Nat) : Prop := 55 ≤ g ∧ g ≤ 57
theorem u_X13_rootsOf_2 {x1 : Int32} {x2 : Int32} {x3 : Int32} {x4 : Int32} {x5 : Int32} {w3 : Int64} {t2 : Int32} {y0 : Int64} {y1 : Int64} {z : ow_MS} {Q : (Int32 × ow_MS) → Prop} (H : Tt (fun K k => qm_X13_rootsOf_2 K (q_X13_rootsOf K k) x1 x2 x3 x4 x5 w3 t2 y0 y1 z) Q) : Tt (fun K k => q_X13_rootsOf K k 2 x1 x2 x3 x4 x5 w3 t2 y0 y1 z) Q := w_un (fun _ _ => rfl) H
theorem u_X13_rootsOf_6 {x1 : Int32} {x2 : Int32} {x3 : Int32} {x4 : Int32} {x5 : Int32} {w3 : Int64} {t2 : Int32} {y0 : Int64} {y1 : Int64} {z : ow_MS} {Q : (Int32 × ow_MS) → Prop} (H : Tt (fun K k => qm_X13_rootsOf_6 K (q_X13_rootsOf K k) x1 x2 x3 x4 x5 w3 t2 y0 y1 z) Q) : Tt (fun K k => q_X13_rootsOf K k 6 x1 x2 x3 x4 x5 w3 t2 y0 y1 z) Q := w_un (fun _ _ => rfl) H
theorem u_X13_rootsOf_3 {x1 : Int32} {x2 : Int32} {x3 : Int32} {x4 : Int32} {x5 : Int32} {w3 : Int64} {t2 : Int32} {y0 : Int64} {y1 : Int64} {z : ow_MS} {Q : (Int32 × ow_MS) → Prop} (H : Tt (fun K k => qm_X13_rootsOf_3 K (q_X13_rootsOf K k) x1 x2 x3 x4 x5 w3 t2 y0 y1 z) Q) : Tt (fun K k => q_X13_rootsOf K k 3 x1 x2 x3 x4 x5 w3 t2 y0 y1 z) Q := w_un (fun _ _ => rfl) H
theorem u_X13_rootsOf_4 {x1 : Int32} {x2 : Int32} {x3 : Int32} {x4 : Int32} {x5 : Int32} {w3 : Int64} {t2 : Int32} {y0 : Int64} {y1 : Int64} {z : ow_MS} {Q : (Int32 × ow_MS) → Prop} (H : Tt (fun K k => qm_X13_rootsOf_4 K (q_X13_rootsOf K k) x1 x2 x3 x4 x5 w3 t2 y0 y1 z) Q) : Tt (fun K k => q_X13_rootsOf K k 4 x1 x2 x3 x4 x5 w3 t2 y0 y1 z) Q := w_un (fun _ _ => rfl) H
theorem u_X13_rootsOf_5 {x1 : Int32} {x2 : Int32} {x3 : Int32} {x4 : Int32} {x5 : Int32} {w3 : Int64} {t2 : Int32} {y0 : Int64} {y1 : Int64} {z : ow_MS} {Q : (Int32 × ow_MS) → Prop} (H : Tt (fun K k => qm_X13_rootsOf_5 K (q_X13_rootsOf K k) x1 x2 x3 x4 x5 w3 t2 y0 y1 z) Q) : Tt (fun K k => q_X13_rootsOf K k 5 x1 x2 x3 x4 x5 w3 t2 y0 y1 z) Q := w_un (fun _ _ => rfl) H
theorem u_X13_rootsOf_1 {x1 : Int32} {x2 : Int32} {x3 : Int32} {x4 : Int32} {x5 : Int32} {w3 : Int64} {t2 : Int32} {y0 : Int64} {y1 : Int64} {z : ow_MS} {Q : (Int32 × ow_MS) → Prop} (H : Tt (fun K k => qm_X13_rootsOf_1 K (q_X13_rootsOf K k) x1 x2 x3 x4 x5 w3 t2 y0 y1 z) Q) : Tt (fun K k => q_X13_rootsOf K k 1 x1 x2 x3 x4 x5 w3 t2 y0 y1 z) Q := w_un (fun _ _ => rfl) H
theorem e_X13_rootsOf {x1 : Int32} {z : ow_MS} {Q : (Int32 × ow_MS) → Prop} (H : Tt (fun K k => q_X13_rootsOf K k 0 x1 0 0 0 0 0 0 0 0 z) Q) : Te (fun K => qe_X13_rootsOf K x1 z) Q := w_te H
theorem u_X13_rootsOf_0 {x1 : Int32} {x2 : Int32} {x3 : Int32} {x4 : Int32} {x5 : Int32} {w3 : Int64} {t2 : Int32} {y0 : Int64} {y1 : Int64} {z : ow_MS} {Q : (Int32 × ow_MS) → Prop} (H : Tt (fun K k => qm_X13_rootsOf_0 K (q_X13_rootsOf K k) x1 x2 x3 x4 x5 w3 t2 y0 y1 z) Q) : Tt (fun K k => q_X13_rootsOf K k 0 x1 x2 x3 x4 x5 w3 t2 y0 y1 z) Q := w_un (fun _ _ => rfl) H
theorem tp_roots {n : Nat} (hn : n ≤ 14) : Te (fun K => qe_X13_rootsOf K (nI n) z) (fun r => fr rtH z r.2) := by
  let Q : Int32 × ow_MS → Prop := fun r => fr rtH z r.2
  have h55 : ∀ {y y1 : ow_MS}, fr rtH z y → fr (fun g => g = 55) y y1 → fr rtH z y1 := fun h1 h2 => fr_tr h1 (fr_mono (fun g hg => by unfold rtH; omega) h2)
  have c2 : ∀ (d k : Nat) (y : ow_MS), k + d = n + 1 → 1 ≤ k → fr rtH z y → Tt (fun K t => q_X13_rootsOf K t 2 (nI n) (nI k) 0 0 0 0 0 0 0 y) Q := by
    intro d
    induction d with
    | zero =>
      intro k y hk hk1 hf
      refine u_X13_rootsOf_2 ?_; unfold qm_X13_rootsOf_2
      refine w_ltT (by omega) (by omega) (w_cs1 (tp_changes (by omega)) (fun a y1 e1 => ?_))
      have e1 : y1 = y := e1
      subst e1
      refine w_cs1 (tp_changes (by omega)) (fun a y2 e2 => ?_)
      have e2 : y2 = y1 := e2
      subst e2
      exact w_some hf
    | succ d ih =>
      intro k y hk hk1 hf
      have c6 : ∀ (d2 i : Nat) (w : Int64) (y : ow_MS), i + d2 = n → fr rtH z y → Tt (fun K t => q_X13_rootsOf K t 6 (nI n) (nI k) 0 0 (nI i) w 0 0 0 y) Q := by
        intro d2
        induction d2 with
        | zero =>
          intro i w y hi hf
          have hnz : (nI k).toInt64 ≠ 0 := by
            rw [nI_l (by omega)]
            exact fun e => by
              have := (pk_lEQ (a := k) (b := 0) (by omega) (by omega)).mp e
              omega
          refine u_X13_rootsOf_6 ?_; unfold qm_X13_rootsOf_6
          rw [show nI n - nI k = nI (n - k) from pk_sub (by omega), nI_1]
          exact w_leT (by omega) (by omega) (w_nzJ hnz (w_wrJ ml57 rfl (by omega) (ih (k + 1) _ (by omega) (by omega) (fr_J2 hf (by unfold rtH; omega)))))
        | succ d2 ih2 =>
          intro i w y hi hf
          refine u_X13_rootsOf_6 ?_; unfold qm_X13_rootsOf_6
          rw [show (17 : Int32) * nI i = nI (17 * i) from pk_mul 17 i, show nI i + 1 = nI (i + 1) from nI_1 _]
          exact w_leF (by omega) (by omega) (w_rdJ ml55 rfl (by omega) rfl (ih2 (i + 1) _ y (by omega) hf))
      have c3 : ∀ (d2 i : Nat) (y : ow_MS), i + d2 = n → fr rtH z y → Tt (fun K t => q_X13_rootsOf K t 3 (nI n) (nI k) (nI i) 0 0 0 0 0 0 y) Q := by
        intro d2
        induction d2 with
        | zero =>
          intro i y hi hf
          refine u_X13_rootsOf_3 ?_; unfold qm_X13_rootsOf_3
          exact w_leT (by omega) (by omega) (w_cs0 (tp_times (by omega)) (fun y1 f1 => c6 n 0 0 y1 (by omega) (h55 hf f1)))
        | succ d2 ih2 =>
          intro i y hi hf
          have c4 : ∀ (d3 j : Nat) (y : ow_MS), j + d3 = n → fr rtH z y → Tt (fun K t => q_X13_rootsOf K t 4 (nI n) (nI k) (nI i) (nI j) 0 0 0 0 0 y) Q := by
            intro d3
            induction d3 with
            | zero =>
              intro j y hj hf
              refine u_X13_rootsOf_4 ?_; unfold qm_X13_rootsOf_4
              rw [show nI i + 1 = nI (i + 1) from nI_1 _]
              exact w_leT (by omega) (by omega) (ih2 (i + 1) y (by omega) hf)
            | succ d3 ih3 =>
              intro j y hj hf
              have c5 : ∀ (y0 y1 : Int64), Tt (fun K t => q_X13_rootsOf K t 5 (nI n) (nI k) (nI i) (nI j) 0 0 (nI (16 * i + j)) y0 y1 y) Q := by
                intro y0 y1
                refine u_X13_rootsOf_5 ?_; unfold qm_X13_rootsOf_5
                rw [show nI j + 1 = nI (j + 1) from nI_1 _]
                exact w_wrJ ml56 rfl (by omega) (ih3 (j + 1) _ (by omega) (fr_J2 hf (by unfold rtH; omega)))
              refine u_X13_rootsOf_4 ?_; unfold qm_X13_rootsOf_4
              rw [s16_ix, show nI n - nI k + 1 = nI (n - k + 1) from by rw [pk_sub (by omega)]; exact nI_1 _]
              exact w_leF (by omega) (by omega) (w_rdJ ml55 rfl (by omega) rfl (w_if (fun _ => w_rdJ ml57 rfl (by omega) rfl (c5 _ _)) (fun _ => c5 _ _)))
          refine u_X13_rootsOf_3 ?_; unfold qm_X13_rootsOf_3
          exact w_leF (by omega) (by omega) (c4 n 0 y (by omega) hf)
      refine u_X13_rootsOf_2 ?_; unfold qm_X13_rootsOf_2
      exact w_ltF (by omega) (by omega) (w_cs0 (tp_times (by omega)) (fun y1 f1 => c3 n 0 y1 (by omega) (h55 hf f1)))
  have c1 : ∀ (d i : Nat) (y : ow_MS), i + d = 256 → fr rtH z y → Tt (fun K t => q_X13_rootsOf K t 1 (nI n) (nI i) 0 0 0 0 0 0 0 y) Q := by
    intro d
    induction d with
    | zero =>
      intro i y hi hf
      refine u_X13_rootsOf_1 ?_; unfold qm_X13_rootsOf_1
      exact w_leT (a := 256) (by omega) (by omega) (w_wrJ ml57 rfl (by omega) (c2 n 1 _ (by omega) (Nat.le_refl _) (fr_J2 hf (by unfold rtH; omega))))
    | succ d ih =>
      intro i y hi hf
      refine u_X13_rootsOf_1 ?_; unfold qm_X13_rootsOf_1
      rw [nI_1]
      exact w_leF (a := 256) (by omega) (by omega) (w_wrJ ml56 rfl (by omega) (ih (i + 1) _ (by omega) (fr_J2 hf (by unfold rtH; omega))))
  refine e_X13_rootsOf ?_
  refine u_X13_rootsOf_0 ?_; unfold qm_X13_rootsOf_0
  exact c1 256 0 z (by omega) fr_rf
/-- what stands while signatures are found: the net with its faces and parts -/
def fcI (y : ow_MS) (n : Nat) (A : rn_L) (sg : Nat → Bool) (F P : Nat) : Prop := oNet y n A sg ∧ rn_fc y n A.flatten.length F ∧ wkF2 A sg F (y.2.1 (n + 14)) ∧ rn_pt y n A P
theorem fcI_fr {n : Nat} {y y1 : ow_MS} {A : rn_L} {sg : Nat → Bool} {F P : Nat} {H : Nat → Prop} (hn : mw_net n) (hf : fr H y y1) (hH : ∀ g, H g → g < 1000) (h : fcI y n A sg F P) : fcI y1 n A sg F P := by
  have hmn := net_mod hn
  have e : ∀ g, 1000 ≤ g → y1.1 g = y.1 g ∧ y1.2.1 g = y.2.1 g := fun g hg => by
    have := hf g (fun h9 => by have := hH g h9; omega)
    exact ⟨this.1, this.2.1⟩
  obtain ⟨h1, h2, h3, h4⟩ := h
  refine ⟨oNet_fr hf (fun g hg => by have := hH g hg; omega) h1, ?_, ?_, ?_⟩
  · unfold rn_fc
    rw [(e (n + 16) (by omega)).1, (e (n + 14) (by omega)).2, (e (n + 15) (by omega)).2]
    exact h2
  · rw [(e (n + 14) (by omega)).2]
    exact h3
  · unfold rn_pt
    rw [(e (n + 13) (by omega)).1, (e (n + 12) (by omega)).2]
    exact h4
/-- the colours: 0, 1 or 2; what has one is a face of part p; f0 has 1 -/
def clI (y : ow_MS) (n : Nat) (A : rn_L) (p f0 : Nat) : Prop := (∀ f, f < 80 → ∃ c, c ≤ 2 ∧ y.2.1 52 f = nI c ∧ (c ≠ 0 → ∃ s, inP A (y.2.1 (n + 12)) p (s / 2) ∧ y.2.1 (n + 14) s = nI f)) ∧ y.2.1 52 f0 = 1
def zeC (y : ow_MS) : Nat := ((List.range 80).filter (fun f => decide (y.2.1 52 f = 0))).length
theorem zeC_lt {y : ow_MS} {f : Nat} {x : Int32} (hf : f < 80) (h0 : y.2.1 52 f = 0) (hx : x ≠ 0) : zeC (usI y 52 f x) < zeC y := by
  have hn : ((List.range 80).filter (fun f' => decide ((usI y 52 f x).2.1 52 f' = 0))).Nodup := List.nodup_range.filter _
  have h1 : f ∉ (List.range 80).filter (fun f' => decide ((usI y 52 f x).2.1 52 f' = 0)) := fun h9 => by
    have := of_decide_eq_true (List.mem_filter.mp h9).2
    rw [po_usI_at] at this
    exact hx this
  have := nodup_le (f :: (List.range 80).filter (fun f' => decide ((usI y 52 f x).2.1 52 f' = 0))) ((List.range 80).filter (fun f => decide (y.2.1 52 f = 0))) (List.nodup_cons.mpr ⟨h1, hn⟩) (fun g hg => by
    rcases List.mem_cons.mp hg with h9 | h9
    · rw [h9]
      exact List.mem_filter.mpr ⟨List.mem_range.mpr hf, decide_eq_true h0⟩
    · obtain ⟨a1, a2⟩ := List.mem_filter.mp h9
      have a2 := of_decide_eq_true a2
      have hgf : g ≠ f := fun e => by
        rw [e, po_usI_at] at a2
        exact hx a2
      rw [po_usI_ne hgf] at a2
      exact List.mem_filter.mpr ⟨a1, decide_eq_true a2⟩)
  rw [List.length_cons] at this
  exact this
theorem three_sub {c : Nat} (h1 : c ≤ 2) (h0 : c ≠ 0) : (3 : Int32) - nI c = nI (3 - c) := pk_sub (a := 3) (by omega)
theorem u_X13_colourFaces_8 {x2 : Int32} {x3 : Int32} {x4 : Int32} {x5 : Int32} {x6 : Int32} {x7 : Int32} {r1 : Nat} {t0 : Int32} {t1 : Int32} {z : ow_MS} {Q : (Int32 × ow_MS) → Prop} (H : Tt (fun K k => qm_X13_colourFaces_8 K (q_X13_colourFaces K k) x2 x3 x4 x5 x6 x7 r1 t0 t1 z) Q) : Tt (fun K k => q_X13_colourFaces K k 8 x2 x3 x4 x5 x6 x7 r1 t0 t1 z) Q := w_un (fun _ _ => rfl) H
theorem u_X13_colourFaces_9 {x2 : Int32} {x3 : Int32} {x4 : Int32} {x5 : Int32} {x6 : Int32} {x7 : Int32} {r1 : Nat} {t0 : Int32} {t1 : Int32} {z : ow_MS} {Q : (Int32 × ow_MS) → Prop} (H : Tt (fun K k => qm_X13_colourFaces_9 K (q_X13_colourFaces K k) x2 x3 x4 x5 x6 x7 r1 t0 t1 z) Q) : Tt (fun K k => q_X13_colourFaces K k 9 x2 x3 x4 x5 x6 x7 r1 t0 t1 z) Q := w_un (fun _ _ => rfl) H
theorem u_X13_colourFaces_3 {x2 : Int32} {x3 : Int32} {x4 : Int32} {x5 : Int32} {x6 : Int32} {x7 : Int32} {r1 : Nat} {t0 : Int32} {t1 : Int32} {z : ow_MS} {Q : (Int32 × ow_MS) → Prop} (H : Tt (fun K k => qm_X13_colourFaces_3 K (q_X13_colourFaces K k) x2 x3 x4 x5 x6 x7 r1 t0 t1 z) Q) : Tt (fun K k => q_X13_colourFaces K k 3 x2 x3 x4 x5 x6 x7 r1 t0 t1 z) Q := w_un (fun _ _ => rfl) H
theorem u_X13_colourFaces_2 {x2 : Int32} {x3 : Int32} {x4 : Int32} {x5 : Int32} {x6 : Int32} {x7 : Int32} {r1 : Nat} {t0 : Int32} {t1 : Int32} {z : ow_MS} {Q : (Int32 × ow_MS) → Prop} (H : Tt (fun K k => qm_X13_colourFaces_2 K (q_X13_colourFaces K k) x2 x3 x4 x5 x6 x7 r1 t0 t1 z) Q) : Tt (fun K k => q_X13_colourFaces K k 2 x2 x3 x4 x5 x6 x7 r1 t0 t1 z) Q := w_un (fun _ _ => rfl) H
theorem u_X13_colourFaces_7 {x2 : Int32} {x3 : Int32} {x4 : Int32} {x5 : Int32} {x6 : Int32} {x7 : Int32} {r1 : Nat} {t0 : Int32} {t1 : Int32} {z : ow_MS} {Q : (Int32 × ow_MS) → Prop} (H : Tt (fun K k => qm_X13_colourFaces_7 K (q_X13_colourFaces K k) x2 x3 x4 x5 x6 x7 r1 t0 t1 z) Q) : Tt (fun K k => q_X13_colourFaces K k 7 x2 x3 x4 x5 x6 x7 r1 t0 t1 z) Q := w_un (fun _ _ => rfl) H
theorem u_X13_colourFaces_5 {x2 : Int32} {x3 : Int32} {x4 : Int32} {x5 : Int32} {x6 : Int32} {x7 : Int32} {r1 : Nat} {t0 : Int32} {t1 : Int32} {z : ow_MS} {Q : (Int32 × ow_MS) → Prop} (H : Tt (fun K k => qm_X13_colourFaces_5 K (q_X13_colourFaces K k) x2 x3 x4 x5 x6 x7 r1 t0 t1 z) Q) : Tt (fun K k => q_X13_colourFaces K k 5 x2 x3 x4 x5 x6 x7 r1 t0 t1 z) Q := w_un (fun _ _ => rfl) H
theorem u_X13_colourFaces_6 {x2 : Int32} {x3 : Int32} {x4 : Int32} {x5 : Int32} {x6 : Int32} {x7 : Int32} {r1 : Nat} {t0 : Int32} {t1 : Int32} {z : ow_MS} {Q : (Int32 × ow_MS) → Prop} (H : Tt (fun K k => qm_X13_colourFaces_6 K (q_X13_colourFaces K k) x2 x3 x4 x5 x6 x7 r1 t0 t1 z) Q) : Tt (fun K k => q_X13_colourFaces K k 6 x2 x3 x4 x5 x6 x7 r1 t0 t1 z) Q := w_un (fun _ _ => rfl) H
theorem u_X13_colourFaces_4 {x2 : Int32} {x3 : Int32} {x4 : Int32} {x5 : Int32} {x6 : Int32} {x7 : Int32} {r1 : Nat} {t0 : Int32} {t1 : Int32} {z : ow_MS} {Q : (Int32 × ow_MS) → Prop} (H : Tt (fun K k => qm_X13_colourFaces_4 K (q_X13_colourFaces K k) x2 x3 x4 x5 x6 x7 r1 t0 t1 z) Q) : Tt (fun K k => q_X13_colourFaces K k 4 x2 x3 x4 x5 x6 x7 r1 t0 t1 z) Q := w_un (fun _ _ => rfl) H
theorem u_X13_colourFaces_1 {x2 : Int32} {x3 : Int32} {x4 : Int32} {x5 : Int32} {x6 : Int32} {x7 : Int32} {r1 : Nat} {t0 : Int32} {t1 : Int32} {z : ow_MS} {Q : (Int32 × ow_MS) → Prop} (H : Tt (fun K k => qm_X13_colourFaces_1 K (q_X13_colourFaces K k) x2 x3 x4 x5 x6 x7 r1 t0 t1 z) Q) : Tt (fun K k => q_X13_colourFaces K k 1 x2 x3 x4 x5 x6 x7 r1 t0 t1 z) Q := w_un (fun _ _ => rfl) H
theorem e_X13_colourFaces {r1 : Nat} {x2 : Int32} {z : ow_MS} {Q : (Int32 × ow_MS) → Prop} (H : Tt (fun K k => q_X13_colourFaces K k 0 x2 0 0 0 0 0 r1 0 0 z) Q) : Te (fun K => qe_X13_colourFaces K r1 x2 z) Q := w_te H
theorem u_X13_colourFaces_0 {x2 : Int32} {x3 : Int32} {x4 : Int32} {x5 : Int32} {x6 : Int32} {x7 : Int32} {r1 : Nat} {t0 : Int32} {t1 : Int32} {z : ow_MS} {Q : (Int32 × ow_MS) → Prop} (H : Tt (fun K k => qm_X13_colourFaces_0 K (q_X13_colourFaces K k) x2 x3 x4 x5 x6 x7 r1 t0 t1 z) Q) : Tt (fun K k => q_X13_colourFaces K k 0 x2 x3 x4 x5 x6 x7 r1 t0 t1 z) Q := w_un (fun _ _ => rfl) H
theorem tp_colour {n F P p v0 c : Nat} {A : rn_L} {sg : Nat → Bool} (hn : mw_net n) (hok : okF A.flatten c) (hc : c ≤ 12) (hI : fcI z n A sg F P) (hp : p < P) (hv0 : inP A (z.2.1 (n + 12)) p v0) (h53 : ∀ f, f < 80 → inR z 53 f 16) : Te (fun K => qe_X13_colourFaces K n (nI v0) z) (fun r => (∃ k, 1 ≤ k ∧ k ≤ 14 ∧ r.1 = nI k) ∧ fr (fun g => g = 52 ∨ g = 53) z r.2 ∧ ∀ f, f < 80 → inR r.2 53 f 16) := by
  have hV := okF_len hok
  have hmn := net_mod hn
  have hd := wkF_ok hI.1.wk
  have hC := hI.1.2.2.2
  obtain ⟨q1, q2, q3, q4⟩ := hI.2.1
  let Q : Int32 × ow_MS → Prop := fun r => (∃ k, 1 ≤ k ∧ k ≤ 14 ∧ r.1 = nI k) ∧ fr (fun g => g = 52 ∨ g = 53) z r.2 ∧ ∀ f, f < 80 → inR r.2 53 f 16
  have iF : ∀ {y : ow_MS}, fr (fun g => g = 52 ∨ g = 53) z y → fcI y n A sg F P := fun hf => fcI_fr hn hf (fun g hg => by omega) hI
  have e14 : ∀ {y : ow_MS}, fr (fun g => g = 52 ∨ g = 53) z y → y.2.1 (n + 14) = z.2.1 (n + 14) := fun hf => (hf (n + 14) (by omega)).2.1
  have e12 : ∀ {y : ow_MS}, fr (fun g => g = 52 ∨ g = 53) z y → y.2.1 (n + 12) = z.2.1 (n + 12) := fun hf => (hf (n + 12) (by omega)).2.1
  obtain ⟨f0, hf0, ef0⟩ := q3 (2 * v0) (by have := hv0.1; omega)
  -- how many faces the part has
  obtain ⟨R, hR, hRin⟩ := euler (sg := sg) (f := fun s => (z.2.1 (n + 14) s).toNatClampNeg) hok (by omega) hI.2.2.2.2.2.1 hp (fun s hs => by
    obtain ⟨f1, hf1, e1⟩ := q3 s hs
    have := (hI.2.2.1 f1 hf1 s hs).mp e1
    show (z.2.1 (n + 14) (phi A sg s)).toNatClampNeg = (z.2.1 (n + 14) s).toNatClampNeg
    rw [this, e1]) hv0
  have c8 : ∀ (d f : Nat) (x3 x4 : Int32) (y : ow_MS), f + d = F → fr (fun g => g = 52 ∨ g = 53) z y → clI y n A p f0 → (∀ f, f < 80 → inR y 53 f 16) → Tt (fun K i => q_X13_colourFaces K i 8 (nI v0) x3 x4 (nI ((List.range f).filter (fun g => decide (y.2.1 52 g = 1))).length) (nI f) 0 n 0 0 y) Q := by
    have bnd : ∀ (f : Nat) (y : ow_MS), f ≤ F → fr (fun g => g = 52 ∨ g = 53) z y → clI y n A p f0 → ((List.range f).filter (fun g => decide (y.2.1 52 g = 1))).length ≤ 14 := by
      intro f y hfF hf hcl
      have := nodup_le ((List.range f).filter (fun g => decide (y.2.1 52 g = 1))) R (List.nodup_range.filter _) (fun g hg => by
        obtain ⟨g1, g2⟩ := List.mem_filter.mp hg
        have g1 := List.mem_range.mp g1
        have g2 := of_decide_eq_true g2
        obtain ⟨cc, k1, k2, k3⟩ := hcl.1 g (by omega)
        obtain ⟨s, s1, s2⟩ := k3 (fun e => by rw [e, g2] at k2; exact absurd k2 (by decide))
        rw [e12 hf] at s1
        rw [e14 hf] at s2
        have := hRin s s1
        simp only [s2, nI_clamp (show g < 2 ^ 31 by omega)] at this
        exact this)
      omega
    intro d
    induction d with
    | zero =>
      intro f x3 x4 y hfF hf hcl hw
      have hfF : f = F := by omega
      subst hfF
      refine u_X13_colourFaces_8 ?_; unfold qm_X13_colourFaces_8
      refine w_rdF (iF hf).2.1.1 (w_leT (by omega) (by omega) (w_some ⟨⟨_, ?_, bnd f y (Nat.le_refl _) hf hcl, rfl⟩, hf, hw⟩))
      exact List.length_pos_of_mem (List.mem_filter.mpr ⟨List.mem_range.mpr hf0, decide_eq_true hcl.2⟩)
    | succ d ih =>
      intro f x3 x4 y hfF hf hcl hw
      have hb := bnd (f + 1) y (by omega) hf hcl
      have hs : ((List.range (f + 1)).filter (fun g => decide (y.2.1 52 g = 1))).length = ((List.range f).filter (fun g => decide (y.2.1 52 g = 1))).length + if y.2.1 52 f = 1 then 1 else 0 := by
        rw [List.range_succ, List.filter_append, List.length_append]
        by_cases h : y.2.1 52 f = 1
        · rw [if_pos h, List.filter_cons_of_pos (p := fun g => decide (y.2.1 52 g = 1)) (decide_eq_true h)]
          rfl
        · rw [if_neg h, List.filter_cons_of_neg (p := fun g => decide (y.2.1 52 g = 1)) (by simpa using h)]
          rfl
      rw [hs] at hb
      refine u_X13_colourFaces_8 ?_; unfold qm_X13_colourFaces_8
      refine w_rdF (iF hf).2.1.1 (w_leF (by omega) (by omega) (w_rdI ml52 rfl (by omega) rfl (w_if (fun h9 => w_wrI ml53 rfl (by omega) ?_) (fun h9 => ?_))))
      · rw [if_pos h9] at hs hb
        refine u_X13_colourFaces_9 ?_; unfold qm_X13_colourFaces_9
        rw [nI_1, nI_1, ← hs]
        refine ih (f + 1) x3 x4 (usI y 53 f _) (by omega) (fr_I2 hf (Or.inr rfl)) ⟨fun g hg => ?_, rd_ot (by omega) hcl.2⟩ (fun g hg => inR_keep (hw g hg) ⟨_, by omega, rfl⟩)
        obtain ⟨cc, k1, k2, k3⟩ := hcl.1 g hg
        refine ⟨cc, k1, rd_ot (by omega) k2, fun h8 => ?_⟩
        obtain ⟨s, s1, s2⟩ := k3 h8
        exact ⟨s, by rw [po_usI_ot (by omega)]; exact s1, by rw [po_usI_ot (by omega)]; exact s2⟩
      · rw [if_neg h9] at hs
        refine u_X13_colourFaces_9 ?_; unfold qm_X13_colourFaces_9
        rw [nI_1]
        have := ih (f + 1) x3 x4 y (by omega) hf hcl hw
        rw [hs] at this
        exact this
  have c2 : ∀ (m : Nat) (x4 : Int32) (y : ow_MS), zeC y ≤ m → fr (fun g => g = 52) z y → clI y n A p f0 → x4 = 1 → Tt (fun K i => q_X13_colourFaces K i 2 (nI v0) (nI p) x4 0 0 0 n 0 0 y) Q := by
    intro m
    induction m using Nat.strongRecOn with
    | ind m ih =>
    intro x4 y hm hf hcl hx4
    have hfm : ∀ {y : ow_MS}, fr (fun g => g = 52) z y → fr (fun g => g = 52 ∨ g = 53) z y := fun h => fr_mono (fun g hg => Or.inl hg) h
    have pass : ∀ (d g : Nat) (x4 : Int32) (y1 : ow_MS), g + d = A.flatten.length → fr (fun g => g = 52) z y1 → clI y1 n A p f0 → (x4 = 0 ∨ x4 = 1 ∧ zeC y1 < zeC y) → zeC y1 ≤ zeC y → Tt (fun K i => q_X13_colourFaces K i 3 (nI v0) (nI p) x4 (nI g) 0 0 n 0 0 y1) Q := by
      intro d
      induction d with
      | zero =>
        intro g x4 y1 hg hf hcl h4 hz
        refine u_X13_colourFaces_3 ?_; unfold qm_X13_colourFaces_3
        refine w_rdF (iF (hfm hf)).1.1.V (w_leT (by omega) (by omega) ?_)
        rcases h4 with h4 | ⟨h4, h5⟩
        · rw [h4]
          refine u_X13_colourFaces_2 ?_; unfold qm_X13_colourFaces_2
          exact w_ifT rfl (c8 F 0 _ _ y1 (by omega) (hfm hf) hcl (fun f hf9 => inR_fr hf (by omega) (h53 f hf9)))
        · exact ih (zeC y1) (by omega) x4 y1 (Nat.le_refl _) hf hcl h4
      | succ d ihp =>
        intro g x4 y1 hg hf hcl h4 hz
        have hgl : g < A.flatten.length := by omega
        have hcc := (rn_c_in A g hgl).1
        have hI1 := iF (hfm hf)
        obtain ⟨fl, hfl, efl⟩ := hI1.2.1.2.2.1 (2 * g) (by omega)
        obtain ⟨fr0, hfr, efr⟩ := hI1.2.1.2.2.1 (2 * g + 1) (by omega)
        have c7 : ∀ (x4 x6 x7 : Int32) (y1 : ow_MS), fr (fun g => g = 52) z y1 → clI y1 n A p f0 → (x4 = 0 ∨ x4 = 1 ∧ zeC y1 < zeC y) → zeC y1 ≤ zeC y → Tt (fun K i => q_X13_colourFaces K i 7 (nI v0) (nI p) x4 (nI g) x6 x7 n 0 0 y1) Q := by
          intro x4 x6 x7 y1 hf hcl h4 hz
          refine u_X13_colourFaces_7 ?_; unfold qm_X13_colourFaces_7
          rw [nI_1]
          exact ihp (g + 1) x4 y1 (by omega) hf hcl h4 hz
        obtain ⟨cl, l1, l2, l3⟩ := hcl.1 fl (by omega)
        obtain ⟨cr, r1, r2, r3⟩ := hcl.1 fr0 (by omega)
        -- a face gets a colour
        have put : ∀ (f cc : Nat) (s : Nat), f < 80 → y1.2.1 52 f = 0 → cc ≤ 2 → cc ≠ 0 → inP A (y1.2.1 (n + 12)) p (s / 2) → y1.2.1 (n + 14) s = nI f → clI (usI y1 52 f (nI cc)) n A p f0 ∧ zeC (usI y1 52 f (nI cc)) < zeC y := by
          intro f cc s hf80 h0 hc2 hc0 hs1 hs2
          refine ⟨⟨fun f' hf' => ?_, ?_⟩, Nat.lt_of_lt_of_le (zeC_lt hf80 h0 (fun e => hc0 ((nI_eq (by omega) (by omega)).mp (e.trans nI_0.symm)))) hz⟩
          · by_cases hff : f' = f
            · rw [hff]
              exact ⟨cc, hc2, po_usI_at, fun _ => ⟨s, by rw [po_usI_ot (by omega)]; exact hs1, by rw [po_usI_ot (by omega)]; exact hs2⟩⟩
            · obtain ⟨c9, k1, k2, k3⟩ := hcl.1 f' hf'
              refine ⟨c9, k1, rd_ne hff k2, fun h8 => ?_⟩
              obtain ⟨s, s1, s2⟩ := k3 h8
              exact ⟨s, by rw [po_usI_ot (by omega)]; exact s1, by rw [po_usI_ot (by omega)]; exact s2⟩
          · have hff : f0 ≠ f := fun e => by
              rw [← e, hcl.2] at h0
              exact absurd h0 (by decide)
            exact rd_ne hff hcl.2
        refine u_X13_colourFaces_3 ?_; unfold qm_X13_colourFaces_3
        rw [show (2 : Int32) * nI g = nI (2 * g) from rn_mul2, show nI (2 * g) + 1 = nI (2 * g + 1) from nI_1 _]
        refine w_rdF hI1.1.1.V (w_leF (by omega) hgl (w_rdI (pl14 hn) rfl (by omega) efl (w_rdI (pl14 hn) rfl (by omega) efr (w_rdI (pl8 hn) rfl (by omega) (lk_c hI1.1.1 hgl) (w_rdI (pl12 hn) rfl (by omega) rfl (w_if (fun hpp => ?_) (fun _ => c7 _ _ _ y1 hf hcl h4 hz)))))))
        have hgP : inP A (y1.2.1 (n + 12)) p g := ⟨hgl, hpp⟩
        have c5 : ∀ (t0 t1 : Int32), (t1 = if cl = 0 then 1 else 0) → (t0 = if cr = 0 then 1 else 0) → Tt (fun K i => q_X13_colourFaces K i 5 (nI v0) (nI p) x4 (nI g) (nI fl) (nI fr0) n t0 t1 y1) Q := by
          intro t0 t1 ht1 ht0
          refine u_X13_colourFaces_5 ?_; unfold qm_X13_colourFaces_5
          refine w_if (fun _ => c7 _ _ _ y1 hf hcl h4 hz) (fun hne => w_rdI ml52 rfl (by omega) l2 (w_eqN (b := 0) (by omega) (by omega) (fun hl0 => ?_) (fun hl0 => ?_)))
          · have hr0 : cr ≠ 0 := fun e => hne (by rw [ht1, ht0, if_pos hl0, if_pos e])
            rw [hl0] at l2
            obtain ⟨k1, k2⟩ := put fl (3 - cr) (2 * g) (by omega) l2 (by omega) (by omega) (by rw [show 2 * g / 2 = g by omega]; exact hgP) efl
            refine w_rdI ml52 rfl (by omega) r2 ?_
            rw [three_sub r1 hr0]
            refine w_wrI ml52 rfl (by omega) ?_
            refine u_X13_colourFaces_6 ?_; unfold qm_X13_colourFaces_6
            exact c7 1 _ _ _ (fr_I2 hf rfl) k1 (Or.inr ⟨rfl, k2⟩) (Nat.le_of_lt k2)
          · have hr0 : cr = 0 := Classical.byContradiction (fun e => hne (by rw [ht1, ht0, if_neg hl0, if_neg e]))
            rw [hr0] at r2
            obtain ⟨k1, k2⟩ := put fr0 (3 - cl) (2 * g + 1) (by omega) r2 (by omega) (by omega) (by rw [show (2 * g + 1) / 2 = g by omega]; exact hgP) efr
            refine w_rdI ml52 rfl (by omega) l2 ?_
            rw [three_sub l1 hl0]
            refine w_wrI ml52 rfl (by omega) ?_
            refine u_X13_colourFaces_6 ?_; unfold qm_X13_colourFaces_6
            exact c7 1 _ _ _ (fr_I2 hf rfl) k1 (Or.inr ⟨rfl, k2⟩) (Nat.le_of_lt k2)
        have c4 : ∀ (t0 : Int32), (t0 = if cl = 0 then 1 else 0) → Tt (fun K i => q_X13_colourFaces K i 4 (nI v0) (nI p) x4 (nI g) (nI fl) (nI fr0) n t0 0 y1) Q := by
          intro t0 ht0
          refine u_X13_colourFaces_4 ?_; unfold qm_X13_colourFaces_4
          exact w_rdI ml52 rfl (by omega) r2 (w_eqN (b := 0) (by omega) (by omega) (fun h9 => c5 _ _ ht0 (if_pos h9).symm) (fun h9 => c5 _ _ ht0 (if_neg h9).symm))
        exact w_rdI ml52 rfl (by omega) l2 (w_eqN (b := 0) (by omega) (by omega) (fun h9 => c4 _ (if_pos h9).symm) (fun h9 => c4 _ (if_neg h9).symm))
    rw [hx4]
    refine u_X13_colourFaces_2 ?_; unfold qm_X13_colourFaces_2
    exact w_ifF (by decide) (pass A.flatten.length 0 0 y (by omega) hf hcl (Or.inl rfl) (Nat.le_refl _))
  have c1 : ∀ (d i : Nat) (y : ow_MS), i + d = 80 → fr (fun g => g = 52) z y → (∀ f, f < i → y.2.1 52 f = 0) → Tt (fun K t => q_X13_colourFaces K t 1 (nI v0) (nI p) (nI i) 0 0 0 n 0 0 y) Q := by
    intro d
    induction d with
    | zero =>
      intro i y hi hf h0
      have e14' : y.2.1 (n + 14) = z.2.1 (n + 14) := (hf (n + 14) (by omega)).2.1
      have e12' : y.2.1 (n + 12) = z.2.1 (n + 12) := (hf (n + 12) (by omega)).2.1
      have hv0l := hv0.1
      refine u_X13_colourFaces_1 ?_; unfold qm_X13_colourFaces_1
      rw [show (2 : Int32) * nI v0 = nI (2 * v0) from rn_mul2]
      refine w_leT (a := 80) (by omega) (by omega) (w_rdI (pl14 hn) rfl (by omega) (by rw [e14']; exact ef0) (w_wrI ml52 rfl (by omega) (c2 _ 1 _ (Nat.le_refl _) (fr_I2 hf rfl) ⟨fun f hf80 => ?_, po_usI_at⟩ rfl)))
      by_cases hff : f = f0
      · rw [hff]
        exact ⟨1, by omega, po_usI_at, fun _ => ⟨2 * v0, by rw [po_usI_ot (by omega), e12', show 2 * v0 / 2 = v0 by omega]; exact hv0, by rw [po_usI_ot (by omega), e14']; exact ef0⟩⟩
      · exact ⟨0, by omega, rd_ne hff (h0 f (by omega)), fun h9 => absurd rfl h9⟩
    | succ d ih =>
      intro i y hi hf h0
      refine u_X13_colourFaces_1 ?_; unfold qm_X13_colourFaces_1
      rw [nI_1]
      refine w_leF (a := 80) (by omega) (by omega) (w_wrI ml52 rfl (by omega) (ih (i + 1) _ (by omega) (fr_I2 hf rfl) (fun f h9 => ?_)))
      by_cases hfi : f = i
      · rw [hfi, po_usI_at]
      · exact rd_ne hfi (h0 f (by omega))
  have hv0l := hv0.1
  have hcc0 := (rn_c_in A v0 hv0l).1
  refine e_X13_colourFaces ?_
  refine u_X13_colourFaces_0 ?_; unfold qm_X13_colourFaces_0
  exact w_rdI (pl8 hn) rfl (by omega) (lk_c hI.1.1 hv0.1) (w_rdI (pl12 hn) rfl (by omega) hv0.2 (c1 80 0 z (by omega) fr_rf (fun f hf => absurd hf (by omega))))
end SIG
end
section
/-! 99zzzs.sign2 -/
/-! signature has an answer: the parts -/
section SIG2
variable {X : (Nat → Nat → Int32) → Prop} {z : ow_MS}
abbrev sgH (g : Nat) : Prop := 52 ≤ g ∧ g ≤ 57
theorem e_X13_signatureOf {r1 : Nat} {x2 : Int32} {z : ow_MS} {Q : (Int32 × ow_MS) → Prop} (H : Tt (fun K k => q_X13_signatureOf K k 0 x2 0 0 0 0 0 0 0 0 0 0 0 0 0 0 0 r1 0 0 z) Q) : Te (fun K => qe_X13_signatureOf K r1 x2 z) Q := w_te H
theorem u_X13_signatureOf_0 {x2 : Int32} {x3 : Int32} {x4 : Int32} {x5 : Int32} {x6 : Int32} {x7 : Int32} {x8 : Int32} {x9 : Int32} {x10 : Int32} {x11 : Int32} {x12 : Int32} {x13 : Int32} {x14 : Int32} {x15 : Int32} {x16 : Int32} {x17 : Int32} {r1 : Nat} {t0 : Int32} {t1 : Int32} {z : ow_MS} {Q : (Int32 × ow_MS) → Prop} (H : Tt (fun K k => qm_X13_signatureOf_0 K (q_X13_signatureOf K k) x2 x3 x4 x5 x6 x7 x8 x9 x10 x11 x12 x13 x14 x15 x16 x17 r1 t0 t1 z) Q) : Tt (fun K k => q_X13_signatureOf K k 0 x2 x3 x4 x5 x6 x7 x8 x9 x10 x11 x12 x13 x14 x15 x16 x17 r1 t0 t1 z) Q := w_un (fun _ _ => rfl) H
theorem u_X13_signatureOf_2 {x2 : Int32} {x3 : Int32} {x4 : Int32} {x5 : Int32} {x6 : Int32} {x7 : Int32} {x8 : Int32} {x9 : Int32} {x10 : Int32} {x11 : Int32} {x12 : Int32} {x13 : Int32} {x14 : Int32} {x15 : Int32} {x16 : Int32} {x17 : Int32} {r1 : Nat} {t0 : Int32} {t1 : Int32} {z : ow_MS} {Q : (Int32 × ow_MS) → Prop} (H : Tt (fun K k => qm_X13_signatureOf_2 K (q_X13_signatureOf K k) x2 x3 x4 x5 x6 x7 x8 x9 x10 x11 x12 x13 x14 x15 x16 x17 r1 t0 t1 z) Q) : Tt (fun K k => q_X13_signatureOf K k 2 x2 x3 x4 x5 x6 x7 x8 x9 x10 x11 x12 x13 x14 x15 x16 x17 r1 t0 t1 z) Q := w_un (fun _ _ => rfl) H
theorem u_X13_signatureOf_10 {x2 : Int32} {x3 : Int32} {x4 : Int32} {x5 : Int32} {x6 : Int32} {x7 : Int32} {x8 : Int32} {x9 : Int32} {x10 : Int32} {x11 : Int32} {x12 : Int32} {x13 : Int32} {x14 : Int32} {x15 : Int32} {x16 : Int32} {x17 : Int32} {r1 : Nat} {t0 : Int32} {t1 : Int32} {z : ow_MS} {Q : (Int32 × ow_MS) → Prop} (H : Tt (fun K k => qm_X13_signatureOf_10 K (q_X13_signatureOf K k) x2 x3 x4 x5 x6 x7 x8 x9 x10 x11 x12 x13 x14 x15 x16 x17 r1 t0 t1 z) Q) : Tt (fun K k => q_X13_signatureOf K k 10 x2 x3 x4 x5 x6 x7 x8 x9 x10 x11 x12 x13 x14 x15 x16 x17 r1 t0 t1 z) Q := w_un (fun _ _ => rfl) H
theorem u_X13_signatureOf_9 {x2 : Int32} {x3 : Int32} {x4 : Int32} {x5 : Int32} {x6 : Int32} {x7 : Int32} {x8 : Int32} {x9 : Int32} {x10 : Int32} {x11 : Int32} {x12 : Int32} {x13 : Int32} {x14 : Int32} {x15 : Int32} {x16 : Int32} {x17 : Int32} {r1 : Nat} {t0 : Int32} {t1 : Int32} {z : ow_MS} {Q : (Int32 × ow_MS) → Prop} (H : Tt (fun K k => qm_X13_signatureOf_9 K (q_X13_signatureOf K k) x2 x3 x4 x5 x6 x7 x8 x9 x10 x11 x12 x13 x14 x15 x16 x17 r1 t0 t1 z) Q) : Tt (fun K k => q_X13_signatureOf K k 9 x2 x3 x4 x5 x6 x7 x8 x9 x10 x11 x12 x13 x14 x15 x16 x17 r1 t0 t1 z) Q := w_un (fun _ _ => rfl) H
theorem u_X13_signatureOf_8 {x2 : Int32} {x3 : Int32} {x4 : Int32} {x5 : Int32} {x6 : Int32} {x7 : Int32} {x8 : Int32} {x9 : Int32} {x10 : Int32} {x11 : Int32} {x12 : Int32} {x13 : Int32} {x14 : Int32} {x15 : Int32} {x16 : Int32} {x17 : Int32} {r1 : Nat} {t0 : Int32} {t1 : Int32} {z : ow_MS} {Q : (Int32 × ow_MS) → Prop} (H : Tt (fun K k => qm_X13_signatureOf_8 K (q_X13_signatureOf K k) x2 x3 x4 x5 x6 x7 x8 x9 x10 x11 x12 x13 x14 x15 x16 x17 r1 t0 t1 z) Q) : Tt (fun K k => q_X13_signatureOf K k 8 x2 x3 x4 x5 x6 x7 x8 x9 x10 x11 x12 x13 x14 x15 x16 x17 r1 t0 t1 z) Q := w_un (fun _ _ => rfl) H
theorem u_X13_signatureOf_7 {x2 : Int32} {x3 : Int32} {x4 : Int32} {x5 : Int32} {x6 : Int32} {x7 : Int32} {x8 : Int32} {x9 : Int32} {x10 : Int32} {x11 : Int32} {x12 : Int32} {x13 : Int32} {x14 : Int32} {x15 : Int32} {x16 : Int32} {x17 : Int32} {r1 : Nat} {t0 : Int32} {t1 : Int32} {z : ow_MS} {Q : (Int32 × ow_MS) → Prop} (H : Tt (fun K k => qm_X13_signatureOf_7 K (q_X13_signatureOf K k) x2 x3 x4 x5 x6 x7 x8 x9 x10 x11 x12 x13 x14 x15 x16 x17 r1 t0 t1 z) Q) : Tt (fun K k => q_X13_signatureOf K k 7 x2 x3 x4 x5 x6 x7 x8 x9 x10 x11 x12 x13 x14 x15 x16 x17 r1 t0 t1 z) Q := w_un (fun _ _ => rfl) H
theorem u_X13_signatureOf_6 {x2 : Int32} {x3 : Int32} {x4 : Int32} {x5 : Int32} {x6 : Int32} {x7 : Int32} {x8 : Int32} {x9 : Int32} {x10 : Int32} {x11 : Int32} {x12 : Int32} {x13 : Int32} {x14 : Int32} {x15 : Int32} {x16 : Int32} {x17 : Int32} {r1 : Nat} {t0 : Int32} {t1 : Int32} {z : ow_MS} {Q : (Int32 × ow_MS) → Prop} (H : Tt (fun K k => qm_X13_signatureOf_6 K (q_X13_signatureOf K k) x2 x3 x4 x5 x6 x7 x8 x9 x10 x11 x12 x13 x14 x15 x16 x17 r1 t0 t1 z) Q) : Tt (fun K k => q_X13_signatureOf K k 6 x2 x3 x4 x5 x6 x7 x8 x9 x10 x11 x12 x13 x14 x15 x16 x17 r1 t0 t1 z) Q := w_un (fun _ _ => rfl) H
theorem u_X13_signatureOf_5 {x2 : Int32} {x3 : Int32} {x4 : Int32} {x5 : Int32} {x6 : Int32} {x7 : Int32} {x8 : Int32} {x9 : Int32} {x10 : Int32} {x11 : Int32} {x12 : Int32} {x13 : Int32} {x14 : Int32} {x15 : Int32} {x16 : Int32} {x17 : Int32} {r1 : Nat} {t0 : Int32} {t1 : Int32} {z : ow_MS} {Q : (Int32 × ow_MS) → Prop} (H : Tt (fun K k => qm_X13_signatureOf_5 K (q_X13_signatureOf K k) x2 x3 x4 x5 x6 x7 x8 x9 x10 x11 x12 x13 x14 x15 x16 x17 r1 t0 t1 z) Q) : Tt (fun K k => q_X13_signatureOf K k 5 x2 x3 x4 x5 x6 x7 x8 x9 x10 x11 x12 x13 x14 x15 x16 x17 r1 t0 t1 z) Q := w_un (fun _ _ => rfl) H
theorem u_X13_signatureOf_4 {x2 : Int32} {x3 : Int32} {x4 : Int32} {x5 : Int32} {x6 : Int32} {x7 : Int32} {x8 : Int32} {x9 : Int32} {x10 : Int32} {x11 : Int32} {x12 : Int32} {x13 : Int32} {x14 : Int32} {x15 : Int32} {x16 : Int32} {x17 : Int32} {r1 : Nat} {t0 : Int32} {t1 : Int32} {z : ow_MS} {Q : (Int32 × ow_MS) → Prop} (H : Tt (fun K k => qm_X13_signatureOf_4 K (q_X13_signatureOf K k) x2 x3 x4 x5 x6 x7 x8 x9 x10 x11 x12 x13 x14 x15 x16 x17 r1 t0 t1 z) Q) : Tt (fun K k => q_X13_signatureOf K k 4 x2 x3 x4 x5 x6 x7 x8 x9 x10 x11 x12 x13 x14 x15 x16 x17 r1 t0 t1 z) Q := w_un (fun _ _ => rfl) H
theorem u_X13_signatureOf_3 {x2 : Int32} {x3 : Int32} {x4 : Int32} {x5 : Int32} {x6 : Int32} {x7 : Int32} {x8 : Int32} {x9 : Int32} {x10 : Int32} {x11 : Int32} {x12 : Int32} {x13 : Int32} {x14 : Int32} {x15 : Int32} {x16 : Int32} {x17 : Int32} {r1 : Nat} {t0 : Int32} {t1 : Int32} {z : ow_MS} {Q : (Int32 × ow_MS) → Prop} (H : Tt (fun K k => qm_X13_signatureOf_3 K (q_X13_signatureOf K k) x2 x3 x4 x5 x6 x7 x8 x9 x10 x11 x12 x13 x14 x15 x16 x17 r1 t0 t1 z) Q) : Tt (fun K k => q_X13_signatureOf K k 3 x2 x3 x4 x5 x6 x7 x8 x9 x10 x11 x12 x13 x14 x15 x16 x17 r1 t0 t1 z) Q := w_un (fun _ _ => rfl) H
theorem u_X13_signatureOf_1 {x2 : Int32} {x3 : Int32} {x4 : Int32} {x5 : Int32} {x6 : Int32} {x7 : Int32} {x8 : Int32} {x9 : Int32} {x10 : Int32} {x11 : Int32} {x12 : Int32} {x13 : Int32} {x14 : Int32} {x15 : Int32} {x16 : Int32} {x17 : Int32} {r1 : Nat} {t0 : Int32} {t1 : Int32} {z : ow_MS} {Q : (Int32 × ow_MS) → Prop} (H : Tt (fun K k => qm_X13_signatureOf_1 K (q_X13_signatureOf K k) x2 x3 x4 x5 x6 x7 x8 x9 x10 x11 x12 x13 x14 x15 x16 x17 r1 t0 t1 z) Q) : Tt (fun K k => q_X13_signatureOf K k 1 x2 x3 x4 x5 x6 x7 x8 x9 x10 x11 x12 x13 x14 x15 x16 x17 r1 t0 t1 z) Q := w_un (fun _ _ => rfl) H
theorem tp_sigOf {n F P p v0 c : Nat} {A : rn_L} {sg : Nat → Bool} (hn : mw_net n) (hok : okF A.flatten c) (hc : c ≤ 12) (hI : fcI z n A sg F P) (hp : p < P) (hv0 : inP A (z.2.1 (n + 12)) p v0) (h53 : ∀ f, f < 80 → inR z 53 f 16) : Te (fun K => qe_X13_signatureOf K n (nI v0) z) (fun r => fr sgH z r.2 ∧ ∀ f, f < 80 → inR r.2 53 f 16) := by
  have hV := okF_len hok
  have hmn := net_mod hn
  have hd := wkF_ok hI.1.wk
  have hC := hI.1.2.2.2
  let Q : Int32 × ow_MS → Prop := fun r => fr sgH z r.2 ∧ ∀ f, f < 80 → inR r.2 53 f 16
  have iF : ∀ {y : ow_MS}, fr sgH z y → fcI y n A sg F P := fun hf => fcI_fr hn hf (fun g hg => by unfold sgH at hg; omega) hI
  have hv0l := hv0.1
  have hcc0 := (rn_c_in A v0 hv0l).1
  refine e_X13_signatureOf ?_
  refine u_X13_signatureOf_0 ?_; unfold qm_X13_signatureOf_0
  refine w_rdI (pl8 hn) rfl (by omega) (lk_c hI.1.1 hv0.1) (w_rdI (pl12 hn) rfl (by omega) hv0.2 (w_cs1 (tp_colour hn hok hc hI hp hv0 h53) (fun a1 z1 ⟨⟨k, hk1, hk14, ek⟩, f1, w1⟩ => ?_)))
  have ek : a1 = nI k := ek
  have f1 : fr (fun g => g = 52 ∨ g = 53) z z1 := f1
  have w1 : ∀ f, f < 80 → inR z1 53 f 16 := w1
  rw [ek]
  have hf1 : fr sgH z z1 := fr_mono (fun g hg => by unfold sgH; omega) f1
  have c2 : ∀ (d o : Nat) (x5 : Int32) (y : ow_MS), o + d = A.flatten.length → fr sgH z y → (∀ f, f < 80 → inR y 53 f 16) → Tt (fun K i => q_X13_signatureOf K i 2 (nI v0) (nI p) (nI k) x5 (nI o) 0 0 0 0 0 0 0 0 0 0 0 n 0 0 y) Q := by
    intro d
    induction d with
    | zero =>
      intro o x5 y ho hf hw
      refine u_X13_signatureOf_2 ?_; unfold qm_X13_signatureOf_2
      rw [show nI k - 1 = nI (k - 1) from pk_sub (b := 1) hk1]
      exact w_rdF (iF hf).1.1.V (w_leT (by omega) (by omega) (w_cs1 (tp_roots (by omega)) (fun a y1 f2 => w_some ⟨fr_tr hf (fr_mono (fun g hg => by unfold rtH at hg; unfold sgH; omega) f2), fun f h9 => inR_fr f2 (by unfold rtH; omega) (hw f h9)⟩)))
    | succ d ih =>
      intro o x5 y ho hf hw
      have hol : o < A.flatten.length := by omega
      have hIy := iF hf
      have hO := hIy.1
      obtain ⟨x1, x2, x3⟩ := hO.cx hol
      have hcc := (rn_c_in A o hol).1
      have hml := mtf_lt hd hol
      have c10 : ∀ (x5 : Int32) (y : ow_MS), fr sgH z y → (∀ f, f < 80 → inR y 53 f 16) → Tt (fun K i => q_X13_signatureOf K i 10 (nI v0) (nI p) (nI k) x5 (nI o) 0 0 0 0 0 0 0 0 0 0 0 n 0 0 y) Q := by
        intro x5 y hf hw
        refine u_X13_signatureOf_10 ?_; unfold qm_X13_signatureOf_10
        rw [nI_1]
        exact ih (o + 1) x5 y (by omega) hf hw
      have face : ∀ s, s < 2 * A.flatten.length → ∃ f, f < 80 ∧ y.2.1 (n + 14) s = nI f := fun s hs => by
        obtain ⟨f, h1, h2⟩ := hIy.2.1.2.2.1 s hs
        exact ⟨f, by have := hIy.2.1.2.1; omega, h2⟩
      have c4 : ∀ (t0 : Int32) (u : Nat), u < A.flatten.length → Tt (fun K i => q_X13_signatureOf K i 4 (nI v0) (nI p) (nI k) x5 (nI o) t0 0 0 0 0 0 0 0 0 0 0 n (nI u) 0 y) Q := by
        intro x7 u hu
        have hmu := mtf_lt hd hu
        have hpu := rn_pv_lt hu
        have hpm := rn_pv_lt hmu
        obtain ⟨fa, ha, ea⟩ := face (2 * u) (by omega)
        obtain ⟨fe, he, ee⟩ := face (2 * u + 1) (by omega)
        obtain ⟨fw, hw0, ew⟩ := face (2 * rn_pv A u) (by omega)
        obtain ⟨fb, hb, eb⟩ := face (2 * rn_pv A (mtf A u)) (by omega)
        have c9 : ∀ (x8 x9 x10 x11 x12 x13 x14 x15 x16 x17 t0 t1 : Int32) (y : ow_MS), fr sgH z y → (∀ f, f < 80 → inR y 53 f 16) → Tt (fun K i => q_X13_signatureOf K i 9 (nI v0) (nI p) (nI k) x5 (nI o) x7 x8 x9 x10 x11 x12 x13 x14 x15 x16 x17 n t0 t1 y) Q := by
          intro x8 x9 x10 x11 x12 x13 x14 x15 x16 x17 t0 t1 y hf hw
          refine u_X13_signatureOf_9 ?_; unfold qm_X13_signatureOf_9
          exact c10 _ y hf hw
        have c8 : ∀ (x14 x15 : Int32) (i f : Nat), i < 16 → f < 80 → Tt (fun K t => q_X13_signatureOf K t 8 (nI v0) (nI p) (nI k) x5 (nI o) x7 (nI u) (nI (mtf A u)) (nI fa) (nI fe) (nI fw) (nI fb) x14 x15 (nI i) 0 n (nI f) 0 y) Q := by
          intro x14 x15 i f hi hf80
          obtain ⟨j, hj, ej⟩ := hw f hf80
          refine u_X13_signatureOf_8 ?_; unfold qm_X13_signatureOf_8
          refine w_rdI ml53 rfl hf80 ej ?_
          rw [s16_ix, s16_ix, s16_ix, s16_ix]
          have hfJ : fr sgH z (usJ (usJ (usJ (usJ y 54 (16 * i + i) (y.2.2 54 (16 * i + i) + x15.toInt64)) 54 (16 * j + j) ((usJ y 54 (16 * i + i) (y.2.2 54 (16 * i + i) + x15.toInt64)).2.2 54 (16 * j + j) + x15.toInt64)) 54 (16 * i + j) ((usJ (usJ y 54 (16 * i + i) (y.2.2 54 (16 * i + i) + x15.toInt64)) 54 (16 * j + j) ((usJ y 54 (16 * i + i) (y.2.2 54 (16 * i + i) + x15.toInt64)).2.2 54 (16 * j + j) + x15.toInt64)).2.2 54 (16 * i + j) - x15.toInt64)) 54 (16 * j + i) ((usJ (usJ (usJ y 54 (16 * i + i) (y.2.2 54 (16 * i + i) + x15.toInt64)) 54 (16 * j + j) ((usJ y 54 (16 * i + i) (y.2.2 54 (16 * i + i) + x15.toInt64)).2.2 54 (16 * j + j) + x15.toInt64)) 54 (16 * i + j) ((usJ (usJ y 54 (16 * i + i) (y.2.2 54 (16 * i + i) + x15.toInt64)) 54 (16 * j + j) ((usJ y 54 (16 * i + i) (y.2.2 54 (16 * i + i) + x15.toInt64)).2.2 54 (16 * j + j) + x15.toInt64)).2.2 54 (16 * i + j) - x15.toInt64)).2.2 54 (16 * j + i) - x15.toInt64)) := fr_J2 (fr_J2 (fr_J2 (fr_J2 hf (by unfold sgH; omega)) (by unfold sgH; omega)) (by unfold sgH; omega)) (by unfold sgH; omega)
          exact w_rdJ ml54 rfl (by omega) rfl (w_wrJ ml54 rfl (by omega) (w_rdJ ml54 rfl (by omega) rfl (w_wrJ ml54 rfl (by omega) (w_rdJ ml54 rfl (by omega) rfl (w_wrJ ml54 rfl (by omega) (w_rdJ ml54 rfl (by omega) rfl (w_wrJ ml54 rfl (by omega) (w_if (fun _ => w_if (fun _ => c9 _ _ _ _ _ _ _ _ _ _ _ _ _ hfJ hw) (fun _ => c9 _ _ _ _ _ _ _ _ _ _ _ _ _ hfJ hw)) (fun _ => c9 _ _ _ _ _ _ _ _ _ _ _ _ _ hfJ hw)))))))))
        have c7 : ∀ (x14 x15 : Int32) (f : Nat), f < 80 → Tt (fun K t => q_X13_signatureOf K t 7 (nI v0) (nI p) (nI k) x5 (nI o) x7 (nI u) (nI (mtf A u)) (nI fa) (nI fe) (nI fw) (nI fb) x14 x15 0 0 n (nI f) 0 y) Q := by
          intro x14 x15 f hf80
          obtain ⟨i, hi, ei⟩ := hw f hf80
          refine u_X13_signatureOf_7 ?_; unfold qm_X13_signatureOf_7
          exact w_rdI ml53 rfl hf80 ei (w_if (fun _ => c8 _ _ i fw hi hw0) (fun _ => c8 _ _ i fb hi hb))
        have c6 : ∀ (x14 t0 : Int32), Tt (fun K t => q_X13_signatureOf K t 6 (nI v0) (nI p) (nI k) x5 (nI o) x7 (nI u) (nI (mtf A u)) (nI fa) (nI fe) (nI fw) (nI fb) x14 0 0 0 n t0 0 y) Q := by
          intro x14 t0
          refine u_X13_signatureOf_6 ?_; unfold qm_X13_signatureOf_6
          exact w_if (fun _ => c7 _ _ fe he) (fun _ => c7 _ _ fa ha)
        have c5 : ∀ (t0 : Int32), Tt (fun K t => q_X13_signatureOf K t 5 (nI v0) (nI p) (nI k) x5 (nI o) x7 (nI u) (nI (mtf A u)) (nI fa) (nI fe) (nI fw) (nI fb) 0 0 0 0 n t0 0 y) Q := by
          intro t0
          refine u_X13_signatureOf_5 ?_; unfold qm_X13_signatureOf_5
          exact w_if (fun _ => c6 _ _) (fun _ => c6 _ _)
        refine u_X13_signatureOf_4 ?_; unfold qm_X13_signatureOf_4
        rw [show (2 : Int32) * nI u = nI (2 * u) from rn_mul2, show nI (2 * u) + 1 = nI (2 * u + 1) from nI_1 _]
        exact w_rdI (pl7 hn) rfl (by omega) (lk_m hd hO.1 hu) (w_rdI (pl14 hn) rfl (by omega) ea (w_rdI (pl14 hn) rfl (by omega) ee (w_rdI (pl10 hn) rfl (by omega) (lk_p hO.1 hu) (w_rdI (i := 2 * rn_pv A u) (pl14 hn) rn_mul2 (by omega) ew (w_rdI (pl10 hn) rfl (by omega) (lk_p hO.1 hmu) (w_rdI (i := 2 * rn_pv A (mtf A u)) (pl14 hn) rn_mul2 (by omega) eb (w_rdI ml52 rfl ha rfl (w_if (fun _ => c5 _) (fun _ => c5 _)))))))))
      have c3 : ∀ (t0 : Int32), Tt (fun K i => q_X13_signatureOf K i 3 (nI v0) (nI p) (nI k) x5 (nI o) 0 0 0 0 0 0 0 0 0 0 0 n t0 0 y) Q := by
        intro t0
        refine u_X13_signatureOf_3 ?_; unfold qm_X13_signatureOf_3
        exact w_if (fun _ => w_rdI (pl7 hn) rfl (by omega) (lk_m hd hO.1 hol) (c4 _ _ hml)) (fun _ => c4 _ _ hol)
      refine u_X13_signatureOf_2 ?_; unfold qm_X13_signatureOf_2
      exact w_rdF hO.1.V (w_leF (by omega) hol (w_rdI (pl5 hn) rfl (by omega) (lk_cu hO.1 hol).2 (w_if (fun _ => w_rdI (pl8 hn) rfl (by omega) (lk_c hO.1 hol) (w_rdI (pl12 hn) rfl (by omega) rfl (w_if (fun _ => w_rdI (pl4 hn) rfl (by omega) (lk_cu hO.1 hol).1 (w_rdI (pl6 hn) rfl (by omega) rfl (w_if (fun _ => c3 _) (fun _ => c3 _)))) (fun _ => c10 _ y hf hw)))) (fun _ => c10 _ y hf hw))))
  have c1 : ∀ (d i : Nat) (y : ow_MS), i + d = 256 → fr sgH z y → (∀ f, f < 80 → inR y 53 f 16) → Tt (fun K t => q_X13_signatureOf K t 1 (nI v0) (nI p) (nI k) (nI i) 0 0 0 0 0 0 0 0 0 0 0 0 n 0 0 y) Q := by
    intro d
    induction d with
    | zero =>
      intro i y hi hf hw
      refine u_X13_signatureOf_1 ?_; unfold qm_X13_signatureOf_1
      exact w_leT (a := 256) (by omega) (by omega) (c2 A.flatten.length 0 0 y (by omega) hf hw)
    | succ d ih =>
      intro i y hi hf hw
      refine u_X13_signatureOf_1 ?_; unfold qm_X13_signatureOf_1
      rw [nI_1]
      exact w_leF (a := 256) (by omega) (by omega) (w_wrJ ml54 rfl (by omega) (ih (i + 1) _ (by omega) (fr_J2 hf (by unfold sgH; omega)) hw))
  exact c1 256 0 z1 (by omega) hf1 w1
/-- row 53 is scratch that keeps its bounds -/
def X53a (X : (Nat → Nat → Int32) → Prop) : Prop := ∀ W, X W → ∀ f, f < 80 → ∃ i, i < 16 ∧ W 53 f = nI i
def X53b (X : (Nat → Nat → Int32) → Prop) : Prop := ∀ W W' : Nat → Nat → Int32, X W → (∀ g, g ≠ 53 → W' g = W g) → (∀ f, f < 80 → ∃ i, i < 16 ∧ W' 53 f = nI i) → X W'
theorem gI_53 {P : Nat → Prop} {z z1 : ow_MS} (hX : X53b X) (hf : fr P z z1) (hP : ∀ g, P g → g = 53 ∨ ¬ per g) (hr : ∀ f, f < 80 → inR z1 53 f 16) (h : gI X z) : gI X z1 := by
  obtain ⟨h1, h2, h3, h4, h5, h6, h7⟩ := h
  have no : ∀ g, per g → g ≠ 53 → ¬ P g := fun g hg hn h9 => (hP g h9).elim hn (fun h8 => h8 hg)
  refine ⟨gTape_fr hf (no 11 (by decide) (by decide)) h1, gRows_fr hf (no 12 (by decide) (by decide)) h2, gList_fr hf (no 20 (by decide) (by decide)) (no 21 (by decide) (by decide)) (no 22 (by decide) (by decide)) h3, gSum_fr hf (no 35 (by decide) (by decide)) (no 39 (by decide) (by decide)) (no 36 (by decide) (by decide)) h4, gCash_fr hf (no 43 (by decide) (by decide)) (no 45 (by decide) (by decide)) (no 50 (by decide) (by decide)) (no 65 (by decide) (by decide)) (no 67 (by decide) (by decide)) h5, gBrs_fr hf (no 94 (by decide) (by decide)) (no 95 (by decide) (by decide)) (no 96 (by decide) (by decide)) h6, hX _ _ h7 (fun g hg => ?_) (fun f hf80 => hr f hf80)⟩
  by_cases h9 : g = 53 ∨ 73 ≤ g ∧ g ≤ 76 ∨ 97 ≤ g ∧ g ≤ 105
  · show z1.2.1 (if _ then _ else _) = z.2.1 (if _ then _ else _)
    rw [if_pos h9]
    exact (hf g (no g (by unfold per; omega) hg)).2.1
  · show z1.2.1 (if _ then _ else _) = z.2.1 (if _ then _ else _)
    rw [if_neg h9]
    exact (hf 73 (no 73 (by decide) (by decide))).2.1
theorem e_X13_signature {x1 : Int32} {z : ow_MS} {Q : (Int32 × ow_MS) → Prop} (H : Tt (fun K k => q_X13_signature K k 0 x1 0 0 0 0 0 0 z) Q) : Te (fun K => qe_X13_signature K x1 z) Q := w_te H
theorem u_X13_signature_0 {x1 : Int32} {x2 : Int32} {x3 : Int32} {x4 : Int32} {x5 : Int32} {t0 : Int32} {t1 : Int32} {z : ow_MS} {Q : (Int32 × ow_MS) → Prop} (H : Tt (fun K k => qm_X13_signature_0 K (q_X13_signature K k) x1 x2 x3 x4 x5 t0 t1 z) Q) : Tt (fun K k => q_X13_signature K k 0 x1 x2 x3 x4 x5 t0 t1 z) Q := w_un (fun _ _ => rfl) H
theorem u_X13_signature_1 {x1 : Int32} {x2 : Int32} {x3 : Int32} {x4 : Int32} {x5 : Int32} {t0 : Int32} {t1 : Int32} {z : ow_MS} {Q : (Int32 × ow_MS) → Prop} (H : Tt (fun K k => qm_X13_signature_1 K (q_X13_signature K k) x1 x2 x3 x4 x5 t0 t1 z) Q) : Tt (fun K k => q_X13_signature K k 1 x1 x2 x3 x4 x5 t0 t1 z) Q := w_un (fun _ _ => rfl) H
theorem u_X13_signature_4 {x1 : Int32} {x2 : Int32} {x3 : Int32} {x4 : Int32} {x5 : Int32} {t0 : Int32} {t1 : Int32} {z : ow_MS} {Q : (Int32 × ow_MS) → Prop} (H : Tt (fun K k => qm_X13_signature_4 K (q_X13_signature K k) x1 x2 x3 x4 x5 t0 t1 z) Q) : Tt (fun K k => q_X13_signature K k 4 x1 x2 x3 x4 x5 t0 t1 z) Q := w_un (fun _ _ => rfl) H
theorem u_X13_signature_2 {x1 : Int32} {x2 : Int32} {x3 : Int32} {x4 : Int32} {x5 : Int32} {t0 : Int32} {t1 : Int32} {z : ow_MS} {Q : (Int32 × ow_MS) → Prop} (H : Tt (fun K k => qm_X13_signature_2 K (q_X13_signature K k) x1 x2 x3 x4 x5 t0 t1 z) Q) : Tt (fun K k => q_X13_signature K k 2 x1 x2 x3 x4 x5 t0 t1 z) Q := w_un (fun _ _ => rfl) H
theorem u_X13_signature_3 {x1 : Int32} {x2 : Int32} {x3 : Int32} {x4 : Int32} {x5 : Int32} {t0 : Int32} {t1 : Int32} {z : ow_MS} {Q : (Int32 × ow_MS) → Prop} (H : Tt (fun K k => qm_X13_signature_3 K (q_X13_signature K k) x1 x2 x3 x4 x5 t0 t1 z) Q) : Tt (fun K k => q_X13_signature K k 3 x1 x2 x3 x4 x5 t0 t1 z) Q := w_un (fun _ _ => rfl) H
theorem tp_signature {d : Int32} (hXa : X53a X) (hXb : X53b X) (h : gI X z) : Te (fun K => qe_X13_signature K d z) (fun r => gI X r.2) := by
  have h1 := gI_1 (c := 0) h
  refine e_X13_signature ?_
  refine u_X13_signature_0 ?_; unfold qm_X13_signature_0
  refine w_wrF (w_has h1.2.1 (w_ifT rfl (w_fail h1)) (fun e A sg he hx hv hne => w_ifF (by decide) ?_))
  subst hx
  refine w_cs0 (to_open pn1 he hv) (fun z2 ⟨o2, f2⟩ => ?_)
  have g2 : gI X z2 := gI_net pn1 f2 (fun g hg => by omega) h1
  have hl := o2.len
  have hC := o2.2.2.2
  have hd := wkF_ok o2.wk
  obtain ⟨c, hok, hc⟩ := o2.2.2.1
  refine w_cs0 (tn_split pn1 (by omega) (by omega) hd o2.1) (fun z3 ⟨f3, P, hP3⟩ => ?_)
  have o3 : oNet z3 1000 A sg := oNet_fr f3 (fun g hg => by unfold frP at hg; omega) o2
  have g3 : gI X z3 := gI_net pn1 f3 (fun g hg => by unfold frP at hg; omega) g2
  refine w_cs0 (tn_walk2 pn1 (by omega) hd o3.1 o3.2.1) (fun z4 ⟨f4, F, hF4, hw4⟩ => ?_)
  have o4 : oNet z4 1000 A sg := oNet_fr f4 (fun g hg => by unfold frW at hg; omega) o3
  have g4 : gI X z4 := gI_net pn1 f4 (fun g hg => by unfold frW at hg; omega) g3
  have hP4 : rn_pt z4 1000 A P := by
    unfold rn_pt
    rw [(f4 1013 (by unfold frW; omega)).1, (f4 1012 (by unfold frW; omega)).2.1]
    exact hP3
  have hI4 : fcI z4 1000 A sg F P := ⟨o4, hF4, hw4, hP4⟩
  have iF : ∀ {y : ow_MS}, fr sgH z4 y → fcI y 1000 A sg F P := fun hf => fcI_fr pn1 hf (fun g hg => by unfold sgH at hg; omega) hI4
  have gF : ∀ {y : ow_MS}, fr sgH z4 y → (∀ f, f < 80 → inR y 53 f 16) → gI X y := fun hf hw => gI_53 hXb hf (fun g hg => by
    by_cases h9 : g = 53
    · exact Or.inl h9
    · exact Or.inr (by unfold sgH at hg; unfold per; omega)) hw g4
  have c1 : ∀ (d p : Nat) (x2 : Int32) (y : ow_MS), p + d = P → fr sgH z4 y → (∀ f, f < 80 → inR y 53 f 16) → Tt (fun K i => q_X13_signature K i 1 (nI e) x2 (nI p) 0 0 0 0 y) (fun r => gI X r.2) := by
    intro d
    induction d with
    | zero =>
      intro p x2 y hp hf hw
      have hP := (iF hf).2.2.2.2.1
      refine u_X13_signature_1 ?_; unfold qm_X13_signature_1
      exact w_rdF (iF hf).2.2.2.1 (w_leT (by omega) (by omega) (w_some (gF hf hw)))
    | succ d ih =>
      intro p x2 y hp hf hw
      have hIy := iF hf
      have hP := hIy.2.2.2.2.1
      have c4 : ∀ (x4 x5 t0 : Int32) (y : ow_MS), fr sgH z4 y → (∀ f, f < 80 → inR y 53 f 16) → Tt (fun K i => q_X13_signature K i 4 (nI e) x2 (nI p) x4 x5 t0 x2 y) (fun r => gI X r.2) := by
        intro x4 x5 t0 y hf hw
        refine u_X13_signature_4 ?_; unfold qm_X13_signature_4
        rw [nI_1]
        exact ih (p + 1) _ y (by omega) hf hw
      have c2 : ∀ (d : Nat) (x4 : Int32), d ≤ A.flatten.length → (x4 = -1 ∨ ∃ v0, x4 = nI v0 ∧ inP A (y.2.1 1012) p v0) → Tt (fun K i => q_X13_signature K i 2 (nI e) x2 (nI p) x4 (iI ((d : Int) - 1)) 0 0 y) (fun r => gI X r.2) := by
        intro d
        induction d with
        | zero =>
          intro x4 _ h4
          refine u_X13_signature_2 ?_; unfold qm_X13_signature_2
          refine w_ifT (by show iI (-1) < iI 0; rw [iI_lt (by omega) (by omega) (by omega) (by omega)]; omega) (w_if (fun _ => c4 _ _ _ y hf hw) (fun n4 => ?_))
          rcases h4 with h4 | ⟨v0, rfl, hv0⟩
          · exact absurd h4 n4
          · refine w_cs1 (tp_sigOf pn1 hok hc hIy (by omega) hv0 hw) (fun a y1 ⟨f5, w5⟩ => c4 _ _ _ y1 (fr_tr hf f5) w5)
        | succ d ih2 =>
          intro x4 hd9 h4
          have e1 : iI (((d + 1 : Nat) : Int) - 1) = nI d := iI_nI (by omega)
          have e2 : nI d + (-1) = iI ((d : Int) - 1) := by
            rw [nI_iI]
            show iI (d : Int) + iI (-1) = _
            rw [iI_add]
            rfl
          have hdl : d < A.flatten.length := by omega
          have hcc := (rn_c_in A d hdl).1
          rw [e1]
          refine u_X13_signature_2 ?_; unfold qm_X13_signature_2
          refine w_ifF (fun h9 => absurd h9 (nI_pos (by omega))) (w_rdI (pl8 pn1) rfl (by omega) (lk_c hIy.1.1 hdl) (w_rdI (pl12 pn1) rfl (by omega) rfl (w_if (fun h9 => ?_) (fun _ => ?_))))
          · refine u_X13_signature_3 ?_; unfold qm_X13_signature_3
            rw [e2]
            exact ih2 _ (by omega) (Or.inr ⟨d, rfl, hdl, h9⟩)
          · refine u_X13_signature_3 ?_; unfold qm_X13_signature_3
            rw [e2]
            exact ih2 _ (by omega) h4
      refine u_X13_signature_1 ?_; unfold qm_X13_signature_1
      refine w_rdF hIy.2.2.2.1 (w_leF (by omega) (by omega) (w_rdF hIy.1.1.V ?_))
      rw [show nI A.flatten.length - 1 = iI ((A.flatten.length : Nat) - 1) from by rw [nI_iI]; exact iI_sub _ 1]
      exact c2 A.flatten.length (-1) (Nat.le_refl _) (Or.inl rfl)
  exact c1 P 0 0 z4 (by omega) fr_rf (fun f hf => hXa _ g4.2.2.2.2.2.2 f hf)
end SIG2
end
section
/-! 99zzzt.parts -/
/-! classes of ends: partitions by labels -/
/-- how many classes a label makes of the numbers below V -/
def cN (V : Nat) (L : Nat → Nat) : Nat := ((List.range V).filter (fun x => decide (∀ y, y < x → L y ≠ L x))).length
theorem cN_rep {V : Nat} {L : Nat → Nat} : ∀ x, x < V → ∃ r, r ∈ (List.range V).filter (fun x => decide (∀ y, y < x → L y ≠ L x)) ∧ L r = L x := by
  intro x
  induction x using Nat.strongRecOn with
  | ind x ih =>
  intro hx
  by_cases h : ∀ y, y < x → L y ≠ L x
  · exact ⟨x, List.mem_filter.mpr ⟨List.mem_range.mpr hx, decide_eq_true h⟩, rfl⟩
  · obtain ⟨y, hy⟩ := Classical.not_forall.mp h
    obtain ⟨hy1, hy2⟩ := Classical.not_imp.mp hy
    have hy2 : L y = L x := Classical.not_not.mp hy2
    obtain ⟨r, h1, h2⟩ := ih y hy1 (by omega)
    exact ⟨r, h1, h2.trans hy2⟩
theorem cN_dLe {V : Nat} {L : Nat → Nat} : dLe V L (cN V L) := by
  refine ⟨((List.range V).filter (fun x => decide (∀ y, y < x → L y ≠ L x))).map L, by rw [List.length_map]; exact Nat.le_refl _, fun x hx => ?_⟩
  obtain ⟨r, h1, h2⟩ := cN_rep (L := L) x hx
  rw [← h2]
  exact List.mem_map.mpr ⟨r, h1, rfl⟩
theorem cN_le {V k : Nat} {L : Nat → Nat} (h : dLe V L k) : cN V L ≤ k := by
  obtain ⟨R, h1, h2⟩ := h
  have hn : (((List.range V).filter (fun x => decide (∀ y, y < x → L y ≠ L x))).map L).Nodup := by
    refine nodup_map (List.nodup_range.filter _) (fun i j hi hj e => ?_)
    have hi := of_decide_eq_true (List.mem_filter.mp hi).2
    have hj := of_decide_eq_true (List.mem_filter.mp hj).2
    rcases Nat.lt_trichotomy i j with h9 | h9 | h9
    · exact absurd e (hj i h9)
    · exact h9
    · exact absurd e.symm (hi j h9)
  have := nodup_le _ R hn (fun a ha => by
    obtain ⟨x, hx, e⟩ := List.mem_map.mp ha
    rw [← e]
    exact h2 x (List.mem_range.mp (List.mem_filter.mp hx).1))
  rw [List.length_map] at this
  exact Nat.le_trans this h1
/-- a coarser label makes no more classes -/
theorem cN_mono {V : Nat} {L K : Nat → Nat} (h : ∀ x y, x < V → y < V → L x = L y → K x = K y) : cN V K ≤ cN V L := by
  refine cN_le ⟨((List.range V).filter (fun x => decide (∀ y, y < x → L y ≠ L x))).map K, by rw [List.length_map]; exact Nat.le_refl _, fun x hx => ?_⟩
  obtain ⟨r, h1, h2⟩ := cN_rep (L := L) x hx
  rw [← h r x (List.mem_range.mp (List.mem_filter.mp h1).1) hx h2]
  exact List.mem_map.mpr ⟨r, h1, rfl⟩
theorem cN_eq {V : Nat} {L K : Nat → Nat} (h : ∀ x y, x < V → y < V → (L x = L y ↔ K x = K y)) : cN V K = cN V L := Nat.le_antisymm (cN_mono (fun x y hx hy => (h x y hx hy).mp)) (cN_mono (fun x y hx hy => (h x y hx hy).mpr))
/-- two classes become one -/
theorem cN_mg {V a b : Nat} {L : Nat → Nat} (ha : a < V) (hb : b < V) (hne : L a ≠ L b) : cN V (fun x => if L x = L a then L b else L x) + 1 = cN V L := by
  have h1 : cN V L ≤ cN V (fun x => if L x = L a then L b else L x) + 1 := by
    obtain ⟨R, r1, r2⟩ := cN_dLe (V := V) (L := fun x => if L x = L a then L b else L x)
    refine cN_le ⟨L a :: R, by rw [List.length_cons]; omega, fun x hx => ?_⟩
    have := r2 x hx
    by_cases h9 : L x = L a
    · rw [h9]; exact List.mem_cons_self
    · have this : (if L x = L a then L b else L x) ∈ R := this
      rw [if_neg h9] at this
      exact List.mem_cons_of_mem _ this
  have h2 : cN V (fun x => if L x = L a then L b else L x) ≤ cN V L - 1 := by
    obtain ⟨R, r1, r2⟩ := cN_dLe (V := V) (L := L)
    have hm := r2 a ha
    refine cN_le ⟨R.erase (L a), by rw [List.length_erase_of_mem hm]; omega, fun x hx => ?_⟩
    show (if L x = L a then L b else L x) ∈ R.erase (L a)
    by_cases h9 : L x = L a
    · rw [if_pos h9]
      exact (List.mem_erase_of_ne (fun e => hne e.symm)).mpr (r2 b hb)
    · rw [if_neg h9]
      exact (List.mem_erase_of_ne h9).mpr (r2 x hx)
  have h3 : 0 < cN V L := by
    obtain ⟨r, k1, -⟩ := cN_rep (L := L) a ha
    exact List.length_pos_of_mem k1
  omega
/-- the label of a list of joins is the finest one -/
theorem mgL_min {K : Nat → Nat} : ∀ (E : List (Nat × Nat)) (L : Nat → Nat), (∀ x y, L x = L y → K x = K y) → (∀ a b, (a, b) ∈ E → K a = K b) → ∀ x y, mgL L E x = mgL L E y → K x = K y
  | [], L, h1, _, x, y, e => h1 x y e
  | (a, b) :: E, L, h1, h2, x, y, e => by
    have hab := h2 a b List.mem_cons_self
    refine mgL_min E (fun x => if L x = L a then L b else L x) (fun x y e => ?_) (fun a b h => h2 a b (List.mem_cons_of_mem _ h)) x y e
    have e : (if L x = L a then L b else L x) = if L y = L a then L b else L y := e
    by_cases hx : L x = L a
    · rw [if_pos hx] at e
      by_cases hy : L y = L a
      · exact h1 x y (hx.trans hy.symm)
      · rw [if_neg hy] at e
        rw [h1 x a hx, hab]
        exact h1 b y e
    · rw [if_neg hx] at e
      by_cases hy : L y = L a
      · rw [if_pos hy] at e
        rw [h1 y a hy, hab]
        exact h1 x b e
      · rw [if_neg hy] at e
        exact h1 x y e
/-! crossings with four ends, and modes: 0 nothing is joined, 1 along, 2 the other way, 3 both -/
section MODE
variable {A B C D : Nat → Nat} {c V : Nat}
abbrev En4 := (Nat → Nat) × (Nat → Nat) × (Nat → Nat) × (Nat → Nat)
def prs (q : En4) (x k : Nat) : List (Nat × Nat) := (if k = 1 ∨ k = 3 then [(q.1 x, q.2.2.2 x), (q.2.2.1 x, q.2.1 x)] else []) ++ if k = 2 ∨ k = 3 then [(q.1 x, q.2.2.1 x), (q.2.1 x, q.2.2.2 x)] else []
def eL (q : En4) (m : Nat → Nat) : Nat → List (Nat × Nat)
  | 0 => []
  | x + 1 => eL q m x ++ prs q x (m x)
def lab (q : En4) (c : Nat) (m : Nat → Nat) : Nat → Nat := mgL (fun x => x) (eL q m c)
def sat (q : En4) (c : Nat) (m K : Nat → Nat) : Prop := ∀ x, x < c → ((m x = 1 ∨ m x = 3) → K (q.1 x) = K (q.2.2.2 x) ∧ K (q.2.2.1 x) = K (q.2.1 x)) ∧ ((m x = 2 ∨ m x = 3) → K (q.1 x) = K (q.2.2.1 x) ∧ K (q.2.1 x) = K (q.2.2.2 x))
theorem eL_mem {q : En4} {m : Nat → Nat} {p : Nat × Nat} : ∀ {c : Nat}, p ∈ eL q m c ↔ ∃ x, x < c ∧ p ∈ prs q x (m x)
  | 0 => ⟨fun h => (by cases h), fun ⟨x, h, _⟩ => absurd h (by omega)⟩
  | c + 1 => by
    show p ∈ eL q m c ++ prs q c (m c) ↔ _
    rw [List.mem_append, eL_mem (c := c)]
    constructor
    · rintro (⟨x, h1, h2⟩ | h)
      · exact ⟨x, by omega, h2⟩
      · exact ⟨c, by omega, h⟩
    · rintro ⟨x, h1, h2⟩
      by_cases hx : x = c
      · rw [hx] at h2; exact Or.inr h2
      · exact Or.inl ⟨x, by omega, h2⟩
theorem lab_sat {q : En4} {m : Nat → Nat} : sat q c m (lab q c m) := by
  intro x hx
  have key : ∀ p, p ∈ prs q x (m x) → lab q c m p.1 = lab q c m p.2 := fun p hp => mgL_m _ _ p.1 p.2 (eL_mem.mpr ⟨x, hx, hp⟩)
  refine ⟨fun h => ?_, fun h => ?_⟩
  · have h1 := key (q.1 x, q.2.2.2 x) (by unfold prs; rw [if_pos h]; exact List.mem_append_left _ List.mem_cons_self)
    have h2 := key (q.2.2.1 x, q.2.1 x) (by unfold prs; rw [if_pos h]; exact List.mem_append_left _ (List.mem_cons_of_mem _ List.mem_cons_self))
    exact ⟨h1, h2⟩
  · have h1 := key (q.1 x, q.2.2.1 x) (by unfold prs; rw [if_pos h]; exact List.mem_append_right _ List.mem_cons_self)
    have h2 := key (q.2.1 x, q.2.2.2 x) (by unfold prs; rw [if_pos h]; exact List.mem_append_right _ (List.mem_cons_of_mem _ List.mem_cons_self))
    exact ⟨h1, h2⟩
theorem lab_min {q : En4} {m K : Nat → Nat} (h : sat q c m K) {x y : Nat} (e : lab q c m x = lab q c m y) : K x = K y := by
  refine mgL_min (K := K) (eL q m c) (fun x => x) (fun x y e => by rw [show x = y from e]) (fun a b hab => ?_) x y e
  obtain ⟨t, ht, hp⟩ := eL_mem.mp hab
  obtain ⟨s1, s2⟩ := h t ht
  unfold prs at hp
  rcases List.mem_append.mp hp with hp | hp
  · by_cases h9 : m t = 1 ∨ m t = 3
    · rw [if_pos h9] at hp
      rcases List.mem_cons.mp hp with hp | hp
      · obtain ⟨rfl, rfl⟩ := Prod.mk.inj hp
        exact (s1 h9).1
      · obtain ⟨rfl, rfl⟩ := Prod.mk.inj (List.mem_singleton.mp hp)
        exact (s1 h9).2
    · rw [if_neg h9] at hp
      cases hp
  · by_cases h9 : m t = 2 ∨ m t = 3
    · rw [if_pos h9] at hp
      rcases List.mem_cons.mp hp with hp | hp
      · obtain ⟨rfl, rfl⟩ := Prod.mk.inj hp
        exact (s2 h9).1
      · obtain ⟨rfl, rfl⟩ := Prod.mk.inj (List.mem_singleton.mp hp)
        exact (s2 h9).2
    · rw [if_neg h9] at hp
      cases hp
/-- the count of classes does not hang on how the joins are written -/
theorem lab_cN {q : En4} {m n : Nat → Nat} (h1 : sat q c m (lab q c n)) (h2 : sat q c n (lab q c m)) : cN V (lab q c m) = cN V (lab q c n) := cN_eq (fun x y _ _ => ⟨fun e => lab_min h2 e, fun e => lab_min h1 e⟩)
def upm (m : Nat → Nat) (j k : Nat) : Nat → Nat := fun x => if x = j then k else m x
/-- each label stands at an even number of ends -/
def evn (q : En4) (c : Nat) : Prop := ∀ (K : Nat → Nat) (j : Nat), j < c → (∀ x, x < c → x ≠ j → (K (q.1 x) = K (q.2.2.2 x) ∧ K (q.2.2.1 x) = K (q.2.1 x)) ∨ (K (q.1 x) = K (q.2.2.1 x) ∧ K (q.2.1 x) = K (q.2.2.2 x))) → (K (q.1 j) = K (q.2.1 j) ∧ K (q.2.2.1 j) = K (q.2.2.2 j)) ∨ (K (q.1 j) = K (q.2.2.1 j) ∧ K (q.2.1 j) = K (q.2.2.2 j)) ∨ (K (q.1 j) = K (q.2.2.2 j) ∧ K (q.2.1 j) = K (q.2.2.1 j))
def ends (q : En4) (c V : Nat) : Prop := ∀ x, x < c → q.1 x < V ∧ q.2.1 x < V ∧ q.2.2.1 x < V ∧ q.2.2.2 x < V
/-- all crossings but j are joined somehow -/
def full (c : Nat) (m : Nat → Nat) : Prop := ∀ x, x < c → m x = 1 ∨ m x = 2 ∨ m x = 3
theorem sat_up {q : En4} {m K : Nat → Nat} {j k : Nat} (hj : j < c) (h : sat q c (upm m j 0) K) (h1 : (k = 1 ∨ k = 3) → K (q.1 j) = K (q.2.2.2 j) ∧ K (q.2.2.1 j) = K (q.2.1 j)) (h2 : (k = 2 ∨ k = 3) → K (q.1 j) = K (q.2.2.1 j) ∧ K (q.2.1 j) = K (q.2.2.2 j)) : sat q c (upm m j k) K := by
  intro x hx
  by_cases hxj : x = j
  · rw [hxj]
    unfold upm
    rw [if_pos rfl]
    exact ⟨h1, h2⟩
  · have := h x hx
    unfold upm at this ⊢
    rw [if_neg hxj] at this ⊢
    exact this
theorem sat_dn {q : En4} {m K : Nat → Nat} {j k : Nat} (h : sat q c (upm m j k) K) : sat q c (upm m j 0) K := by
  intro x hx
  by_cases hxj : x = j
  · unfold upm
    rw [if_pos hxj]
    exact ⟨fun h9 => absurd h9 (by omega), fun h9 => absurd h9 (by omega)⟩
  · have := h x hx
    unfold upm at this ⊢
    rw [if_neg hxj] at this ⊢
    exact this
theorem upm_at {m : Nat → Nat} {j k : Nat} : upm m j k j = k := if_pos rfl
/-- three kinds of crossings: at an ordinary one both ways join as both together; at the others one way joins so, and the other one makes one class more, whatever the finer joins are -/
theorem kinds {q : En4} {m : Nat → Nat} {j : Nat} (hj : j < c) (hE : ends q c V) (hev : evn q c) (hm : full c m) : (cN V (lab q c (upm m j 1)) = cN V (lab q c (upm m j 3)) ∧ cN V (lab q c (upm m j 2)) = cN V (lab q c (upm m j 3))) ∨ (cN V (lab q c (upm m j 1)) = cN V (lab q c (upm m j 3)) ∧ ∀ n, full c n → (∀ K, sat q c (upm m j 0) K → sat q c (upm n j 0) K) → cN V (lab q c (upm n j 2)) = cN V (lab q c (upm n j 1)) + 1) ∨ (cN V (lab q c (upm m j 2)) = cN V (lab q c (upm m j 3)) ∧ ∀ n, full c n → (∀ K, sat q c (upm m j 0) K → sat q c (upm n j 0) K) → cN V (lab q c (upm n j 1)) = cN V (lab q c (upm n j 2)) + 1) := by
  have tri : ∀ (n : Nat → Nat), full c n → ∀ K, sat q c (upm n j 0) K → (K (q.1 j) = K (q.2.1 j) ∧ K (q.2.2.1 j) = K (q.2.2.2 j)) ∨ (K (q.1 j) = K (q.2.2.1 j) ∧ K (q.2.1 j) = K (q.2.2.2 j)) ∨ (K (q.1 j) = K (q.2.2.2 j) ∧ K (q.2.1 j) = K (q.2.2.1 j)) := by
    intro n hn K hK
    refine hev K j hj (fun x hx hxj => ?_)
    have h1 := hK x hx
    unfold upm at h1
    rw [if_neg hxj] at h1
    rcases hn x hx with h9 | h9 | h9
    · exact Or.inl (h1.1 (Or.inl h9))
    · exact Or.inr (h1.2 (Or.inl h9))
    · exact Or.inl (h1.1 (Or.inr h9))
  obtain ⟨eA, eB, eC, eD⟩ := hE j hj
  let R := lab q c (upm m j 0)
  -- what is joined in R is joined in all that is coarser
  have cor : ∀ {k : Nat} {x y : Nat}, R x = R y → lab q c (upm m j k) x = lab q c (upm m j k) y := fun e => lab_min (sat_dn lab_sat) e
  have w1 : ∀ {k : Nat}, lab q c (upm m j k) (q.1 j) = lab q c (upm m j k) (q.2.2.2 j) → lab q c (upm m j k) (q.2.2.1 j) = lab q c (upm m j k) (q.2.1 j) → lab q c (upm m j k) (q.1 j) = lab q c (upm m j k) (q.2.2.1 j) → lab q c (upm m j k) (q.2.1 j) = lab q c (upm m j k) (q.2.2.2 j) → cN V (lab q c (upm m j k)) = cN V (lab q c (upm m j 3)) ∨ k = 0 := by
    intro k g1 g2 g3 g4
    by_cases hk : k = 0
    · exact Or.inr hk
    · refine Or.inl (lab_cN (sat_up hj (sat_dn lab_sat) (fun _ => ?_) (fun _ => ?_)) (sat_up hj (sat_dn lab_sat) (fun _ => ⟨g1, g2⟩) (fun _ => ⟨g3, g4⟩)))
      · have := (lab_sat (q := q) (c := c) (m := upm m j 3) j hj).1 (by rw [upm_at]; exact Or.inr rfl)
        exact this
      · have := (lab_sat (q := q) (c := c) (m := upm m j 3) j hj).2 (by rw [upm_at]; exact Or.inr rfl)
        exact this
  have k1 := (lab_sat (q := q) (c := c) (m := upm m j 1) j hj).1 (by rw [upm_at]; exact Or.inl rfl)
  have k2 := (lab_sat (q := q) (c := c) (m := upm m j 2) j hj).2 (by rw [upm_at]; exact Or.inl rfl)
  -- one way adds nothing, the other one joins two classes
  have split : ∀ (n : Nat → Nat) (k k' : Nat), full c n → (k = 1 ∧ k' = 2 ∨ k = 2 ∧ k' = 1) → (k' = 2 → lab q c (upm n j 0) (q.1 j) = lab q c (upm n j 0) (q.2.2.1 j) ∧ lab q c (upm n j 0) (q.2.1 j) = lab q c (upm n j 0) (q.2.2.2 j)) → (k' = 1 → lab q c (upm n j 0) (q.1 j) = lab q c (upm n j 0) (q.2.2.2 j) ∧ lab q c (upm n j 0) (q.2.1 j) = lab q c (upm n j 0) (q.2.2.1 j)) → lab q c (upm n j 0) (q.1 j) ≠ lab q c (upm n j 0) (q.2.1 j) → cN V (lab q c (upm n j k')) = cN V (lab q c (upm n j k)) + 1 := by
    intro n k k' hn hk h2 h1 hne
    let R := lab q c (upm n j 0)
    have e1 : cN V (lab q c (upm n j k')) = cN V R := by
      refine lab_cN (sat_up hj (lab_sat (m := upm n j 0)) (fun h9 => ?_) (fun h9 => ?_)) (sat_dn lab_sat)
      · have : k' = 1 := by omega
        exact ⟨(h1 this).1, (h1 this).2.symm⟩
      · have : k' = 2 := by omega
        exact h2 this
    have e2 : cN V (lab q c (upm n j k)) + 1 = cN V R := by
      rw [← cN_mg (L := R) eA eB hne]
      congr 1
      have s1 : sat q c (upm n j k) (fun x => if R x = R (q.1 j) then R (q.2.1 j) else R x) := by
        refine sat_up hj (fun x hx => ?_) (fun h9 => ?_) (fun h9 => ?_)
        · obtain ⟨s1, s2⟩ := lab_sat (q := q) (c := c) (m := upm n j 0) x hx
          have s1 : _ → R (q.1 x) = R (q.2.2.2 x) ∧ R (q.2.2.1 x) = R (q.2.1 x) := s1
          have s2 : _ → R (q.1 x) = R (q.2.2.1 x) ∧ R (q.2.1 x) = R (q.2.2.2 x) := s2
          refine ⟨fun h9 => ?_, fun h9 => ?_⟩
          · show (if R (q.1 x) = _ then _ else _) = (if R (q.2.2.2 x) = _ then _ else _) ∧ (if R (q.2.2.1 x) = _ then _ else _) = if R (q.2.1 x) = _ then _ else _
            rw [(s1 h9).1, (s1 h9).2]
            exact ⟨rfl, rfl⟩
          · show (if R (q.1 x) = _ then _ else _) = (if R (q.2.2.1 x) = _ then _ else _) ∧ (if R (q.2.1 x) = _ then _ else _) = if R (q.2.2.2 x) = _ then _ else _
            rw [(s2 h9).1, (s2 h9).2]
            exact ⟨rfl, rfl⟩
        · have hk1 : k = 1 := by omega
          have hk2 : k' = 2 := by omega
          obtain ⟨g1, g2⟩ := h2 hk2
          have g1 : R (q.1 j) = R (q.2.2.1 j) := g1
          have g2 : R (q.2.1 j) = R (q.2.2.2 j) := g2
          show (if R (q.1 j) = R (q.1 j) then R (q.2.1 j) else _) = (if R (q.2.2.2 j) = R (q.1 j) then R (q.2.1 j) else R (q.2.2.2 j)) ∧ (if R (q.2.2.1 j) = R (q.1 j) then R (q.2.1 j) else _) = if R (q.2.1 j) = R (q.1 j) then R (q.2.1 j) else R (q.2.1 j)
          rw [if_pos rfl, if_pos g1.symm, ← g2]
          constructor <;> split <;> rfl
        · have hk1 : k = 2 := by omega
          have hk2 : k' = 1 := by omega
          obtain ⟨g1, g2⟩ := h1 hk2
          have g1 : R (q.1 j) = R (q.2.2.2 j) := g1
          have g2 : R (q.2.1 j) = R (q.2.2.1 j) := g2
          show (if R (q.1 j) = R (q.1 j) then R (q.2.1 j) else _) = (if R (q.2.2.1 j) = R (q.1 j) then R (q.2.1 j) else R (q.2.2.1 j)) ∧ (if R (q.2.1 j) = R (q.1 j) then R (q.2.1 j) else R (q.2.1 j)) = if R (q.2.2.2 j) = R (q.1 j) then R (q.2.1 j) else R (q.2.2.2 j)
          rw [if_pos rfl, if_pos g1.symm, ← g2]
          constructor <;> split <;> rfl
      refine cN_eq (fun x y _ _ => ⟨fun e => ?_, fun e => ?_⟩)
      · -- the merged label is not finer than that of the joins
        have hR : ∀ a b, R a = R b → lab q c (upm n j k) a = lab q c (upm n j k) b := fun a b e => lab_min (sat_dn lab_sat) e
        have hAB : lab q c (upm n j k) (q.1 j) = lab q c (upm n j k) (q.2.1 j) := by
          rcases hk with ⟨rfl, rfl⟩ | ⟨rfl, rfl⟩
          · have := (lab_sat (q := q) (c := c) (m := upm n j 1) j hj).1 (by rw [upm_at]; exact Or.inl rfl)
            rw [this.1]
            exact (hR _ _ (h2 rfl).2).symm
          · have := (lab_sat (q := q) (c := c) (m := upm n j 2) j hj).2 (by rw [upm_at]; exact Or.inl rfl)
            rw [this.1]
            exact (hR _ _ (h1 rfl).2).symm
        have e : (if R x = R (q.1 j) then R (q.2.1 j) else R x) = if R y = R (q.1 j) then R (q.2.1 j) else R y := e
        by_cases hx : R x = R (q.1 j)
        · rw [if_pos hx] at e
          by_cases hy : R y = R (q.1 j)
          · exact hR _ _ (hx.trans hy.symm)
          · rw [if_neg hy] at e
            rw [hR _ _ hx, hAB]
            exact hR _ _ e
        · rw [if_neg hx] at e
          by_cases hy : R y = R (q.1 j)
          · rw [if_pos hy] at e
            rw [hR _ _ hy, hAB]
            exact hR _ _ e
          · rw [if_neg hy] at e
            exact hR _ _ e
      · exact lab_min s1 e
    omega
  -- what a finer label says, if the coarse one parts the two sides
  have fine : ∀ n, full c n → (∀ K, sat q c (upm m j 0) K → sat q c (upm n j 0) K) → R (q.1 j) ≠ R (q.2.1 j) → ∀ {x y}, lab q c (upm n j 0) x = lab q c (upm n j 0) y → R x = R y := fun n hn hf hne x y e => lab_min (hf R lab_sat) e
  by_cases hab : R (q.1 j) = R (q.2.1 j)
  · -- ordinary
    have hcd : R (q.2.2.1 j) = R (q.2.2.2 j) := by
      rcases tri m hm R lab_sat with ⟨-, h⟩ | ⟨h1, h2⟩ | ⟨h1, h2⟩
      · exact h
      · rw [← h1, hab, h2]
      · rw [← h1, hab, h2]
    refine Or.inl ⟨?_, ?_⟩
    · have a1 := cor (k := 1) hab
      have a2 := cor (k := 1) hcd
      exact (w1 k1.1 k1.2 (by rw [k1.1, ← a2]) (by rw [← a1, k1.1])).resolve_right (by omega)
    · have a1 := cor (k := 2) hab
      have a2 := cor (k := 2) hcd
      exact (w1 (by rw [a1, k2.2]) (by rw [a2, ← k2.2]) k2.1 k2.2).resolve_right (by omega)
  · rcases tri m hm R lab_sat with ⟨h, -⟩ | ⟨h1, h2⟩ | ⟨h1, h2⟩
    · exact absurd h hab
    · refine Or.inr (Or.inl ⟨(w1 k1.1 k1.2 (cor h1) (cor h2)).resolve_right (by omega), fun n hn hf => ?_⟩)
      have hf9 : ∀ {x y : Nat}, lab q c (upm n j 0) x = lab q c (upm n j 0) y → R x = R y := fun e => fine n hn hf hab e
      have hne : lab q c (upm n j 0) (q.1 j) ≠ lab q c (upm n j 0) (q.2.1 j) := fun e => hab (hf9 e)
      refine split n 1 2 hn (Or.inl ⟨rfl, rfl⟩) (fun _ => ?_) (fun h => absurd h (by omega)) hne
      rcases tri n hn _ lab_sat with ⟨h, -⟩ | h | ⟨h, -⟩
      · exact absurd h hne
      · exact h
      · exact absurd ((hf9 h).trans h2.symm) hab
    · refine Or.inr (Or.inr ⟨(w1 (cor h1) (cor h2).symm k2.1 k2.2).resolve_right (by omega), fun n hn hf => ?_⟩)
      have hf9 : ∀ {x y : Nat}, lab q c (upm n j 0) x = lab q c (upm n j 0) y → R x = R y := fun e => fine n hn hf hab e
      have hne : lab q c (upm n j 0) (q.1 j) ≠ lab q c (upm n j 0) (q.2.1 j) := fun e => hab (hf9 e)
      refine split n 2 1 hn (Or.inr ⟨rfl, rfl⟩) (fun h => absurd h (by omega)) (fun _ => ?_) hne
      rcases tri n hn _ lab_sat with ⟨h, -⟩ | ⟨h, -⟩ | h
      · exact absurd h hne
      · exact absurd ((hf9 h).trans h2.symm) hab
      · exact h
end MODE
end
section
/-! 99zzzu.count -/
/-! how many generators there are -/
theorem pcF_hi : ∀ (n j i : Nat), j < n → i < 2 ^ j → pcF n (2 ^ j + i) = pcF n i + 1
  | 0, j, i, h, _ => by omega
  | n + 1, 0, i, _, hi => by
    have hi : i = 0 := by simpa using hi
    subst hi
    show (2 ^ 0 + 0) % 2 + pcF n ((2 ^ 0 + 0) / 2) = 0 % 2 + pcF n (0 / 2) + 1
    rw [show (2 ^ 0 + 0) / 2 = 0 / 2 from rfl, show (2 ^ 0 + 0) % 2 = 1 from rfl]
    omega
  | n + 1, j + 1, i, h, hi => by
    have e : 2 ^ (j + 1) = 2 * 2 ^ j := by rw [Nat.pow_succ]; omega
    have := pcF_hi n j (i / 2) (by omega) (by omega)
    show (2 ^ (j + 1) + i) % 2 + pcF n ((2 ^ (j + 1) + i) / 2) = i % 2 + pcF n (i / 2) + 1
    rw [show (2 ^ (j + 1) + i) % 2 = i % 2 by omega, show (2 ^ (j + 1) + i) / 2 = 2 ^ j + i / 2 by omega, this]
    omega
theorem pc_hi {j i : Nat} (hj : j < 32) (hi : i < 2 ^ j) : pc (2 ^ j + i) = pc i + 1 := pcF_hi 32 j i hj hi
/-- sums over the states below n with h ones -/
def smH (w : Nat → Nat) (h t : Nat) : Nat → Nat
  | 0 => 0
  | n + 1 => smH w h t n + if pc n = h then w (t + n) else 0
def lm0 (w : Nat → Nat) : Nat → Nat → Nat → Nat
  | 0, t, h => if h = 0 then w t else 0
  | j + 1, t, h => lm0 w j t h + if h = 0 then 0 else lm0 w j (t + 2 ^ j) (h - 1)
theorem smH_hi {w : Nat → Nat} {h t j : Nat} (hj : j < 32) : ∀ i, i ≤ 2 ^ j → smH w h t (2 ^ j + i) = smH w h t (2 ^ j) + if h = 0 then 0 else smH w (h - 1) (t + 2 ^ j) i
  | 0, _ => by
    show _ = _ + if h = 0 then 0 else 0
    split <;> rfl
  | i + 1, hi => by
    have ih := smH_hi (w := w) (h := h) (t := t) hj i (by omega)
    show smH w h t (2 ^ j + i) + (if pc (2 ^ j + i) = h then w (t + (2 ^ j + i)) else 0) = _
    rw [ih, pc_hi hj (by omega)]
    by_cases h0 : h = 0
    · rw [if_pos h0, if_pos h0, if_neg (by omega)]
    · rw [if_neg h0, if_neg h0]
      show _ = _ + (smH w (h - 1) (t + 2 ^ j) i + if pc i = h - 1 then w (t + 2 ^ j + i) else 0)
      rw [show t + (2 ^ j + i) = t + 2 ^ j + i by omega]
      by_cases h1 : pc i + 1 = h
      · rw [if_pos h1, if_pos (by omega)]; omega
      · rw [if_neg h1, if_neg (by omega)]; omega
theorem smH_lm {w : Nat → Nat} : ∀ (j t h : Nat), j < 32 → smH w h t (2 ^ j) = lm0 w j t h
  | 0, t, h, _ => by
    show 0 + (if pc 0 = h then w (t + 0) else 0) = if h = 0 then w t else 0
    rw [show pc 0 = 0 from by decide]
    by_cases h0 : h = 0
    · rw [if_pos h0, if_pos h0.symm, Nat.add_zero, Nat.zero_add]
    · rw [if_neg h0, if_neg (fun e => h0 e.symm)]
  | j + 1, t, h, hj => by
    have e : 2 ^ (j + 1) = 2 ^ j + 2 ^ j := by rw [Nat.pow_succ]; omega
    rw [e, smH_hi (by omega) _ (Nat.le_refl _), smH_lm j t h (by omega)]
    show _ = lm0 w j t h + if h = 0 then 0 else lm0 w j (t + 2 ^ j) (h - 1)
    by_cases h0 : h = 0
    · rw [if_pos h0, if_pos h0]
    · rw [if_neg h0, if_neg h0, smH_lm j _ _ (by omega)]
/-- sums over all states below n -/
def smA (w : Nat → Nat) (t : Nat) : Nat → Nat
  | 0 => 0
  | n + 1 => smA w t n + w (t + n)
theorem smA_add {w : Nat → Nat} {t n : Nat} : ∀ i, smA w t (n + i) = smA w t n + smA w (t + n) i
  | 0 => rfl
  | i + 1 => by
    have ih := smA_add (w := w) (t := t) (n := n) i
    show smA w t (n + i) + w (t + (n + i)) = smA w t n + (smA w (t + n) i + w (t + n + i))
    rw [ih, show t + (n + i) = t + n + i by omega]
    omega
theorem smA_eq {w u : Nat → Nat} {t s : Nat} : ∀ n, (∀ i, i < n → w (t + i) = u (s + i)) → smA w t n = smA u s n
  | 0, _ => rfl
  | n + 1, h => by
    show smA w t n + w (t + n) = smA u s n + u (s + n)
    rw [smA_eq n (fun i hi => h i (by omega)), h n (by omega)]
theorem smA_mul {w : Nat → Nat} {t k : Nat} : ∀ n, smA (fun s => k * w s) t n = k * smA w t n
  | 0 => rfl
  | n + 1 => by
    show smA (fun s => k * w s) t n + k * w (t + n) = k * (smA w t n + w (t + n))
    rw [smA_mul n, Nat.mul_add]
theorem smA_mono {w : Nat → Nat} {t a : Nat} : ∀ b, a ≤ b → smA w t a ≤ smA w t b
  | 0, h => by rw [show a = 0 by omega]; exact Nat.le_refl _
  | b + 1, h => by
    by_cases e : a = b + 1
    · rw [e]; exact Nat.le_refl _
    · have := smA_mono (w := w) (t := t) (a := a) b (by omega)
      show smA w t a ≤ smA w t b + _
      omega
/-! states and modes -/
def btN (s x : Nat) : Nat := s / 2 ^ x % 2
def mB (w : Bool) (b : Nat) : Nat := if decide (b = 1) = w then 1 else 2
theorem mB_1 {w : Bool} {b : Nat} : mB w b = 1 ∨ mB w b = 2 := by
  unfold mB
  split
  · exact Or.inl rfl
  · exact Or.inr rfl
def mdS (ab : Nat → Bool) (j t x : Nat) : Nat := if x < j then 3 else mB (ab x) (btN t x)
theorem bt_hi {j t r x : Nat} (ht : t % 2 ^ j = 0) (hr : r < 2 ^ j) (hx : j ≤ x) : btN (t + r) x = btN t x := by
  unfold btN
  obtain ⟨u, hu⟩ : ∃ u, t = 2 ^ j * u := ⟨t / 2 ^ j, by have := Nat.div_add_mod t (2 ^ j); omega⟩
  obtain ⟨y, rfl⟩ : ∃ y, x = j + y := ⟨x - j, by omega⟩
  have h1 : (t + r) / 2 ^ (j + y) = t / 2 ^ (j + y) := by
    rw [Nat.pow_add, ← Nat.div_div_eq_div_mul, ← Nat.div_div_eq_div_mul, hu, Nat.mul_add_div (Nat.two_pow_pos j), Nat.div_eq_of_lt hr, Nat.mul_div_cancel_left u (Nat.two_pow_pos j), Nat.add_zero]
  rw [h1]
theorem bt_j {j t r : Nat} (ht : t % 2 ^ (j + 1) = 0) (hr : r < 2 ^ j) : btN (t + r) j = 0 ∧ btN (t + 2 ^ j + r) j = 1 := by
  have e : 2 ^ (j + 1) = 2 * 2 ^ j := by rw [Nat.pow_succ]; omega
  rw [e] at ht
  have hp := Nat.two_pow_pos j
  obtain ⟨u, hu⟩ : ∃ u, t = 2 ^ j * (2 * u) := ⟨t / (2 * 2 ^ j), by
    have := Nat.div_add_mod t (2 * 2 ^ j)
    rw [ht] at this
    rw [← Nat.mul_assoc, Nat.mul_comm (2 ^ j) 2]
    omega⟩
  unfold btN
  constructor
  · rw [hu, Nat.mul_add_div hp, Nat.div_eq_of_lt hr]
    omega
  · rw [hu, show 2 ^ j * (2 * u) + 2 ^ j + r = 2 ^ j * (2 * u + 1) + r by rw [Nat.mul_add]; omega, Nat.mul_add_div hp, Nat.div_eq_of_lt hr]
    omega
section CNT
variable {q : En4} {c V e : Nat} {ab : Nat → Bool}
theorem mdS_full {j t : Nat} : full c (mdS ab j t) := by
  intro x _
  unfold mdS
  split
  · exact Or.inr (Or.inr rfl)
  · rcases mB_1 (w := ab x) (b := btN t x) with h | h
    · exact Or.inl h
    · exact Or.inr (Or.inl h)
/-- the loops of a state -/
def ell (q : En4) (c V : Nat) (ab : Nat → Bool) (t : Nat) : Nat := cN V (lab q c (mdS ab 0 t))
def ell2 (q : En4) (c V : Nat) (ab : Nat → Bool) (j t : Nat) : Nat := cN V (lab q c (mdS ab j t))
/-- at each crossing one of three things is so -/
theorem kinds2 {j t : Nat} (hj : j < c) (hE : ends q c V) (hev : evn q c) (ht : t % 2 ^ (j + 1) = 0) : (ell2 q c V ab j t = ell2 q c V ab (j + 1) t ∧ ell2 q c V ab j (t + 2 ^ j) = ell2 q c V ab (j + 1) t) ∨ (ell2 q c V ab j t = ell2 q c V ab (j + 1) t ∧ ∀ r, r < 2 ^ j → ell q c V ab (t + 2 ^ j + r) = ell q c V ab (t + r) + 1) ∨ (ell2 q c V ab j (t + 2 ^ j) = ell2 q c V ab (j + 1) t ∧ ∀ r, r < 2 ^ j → ell q c V ab (t + r) = ell q c V ab (t + 2 ^ j + r) + 1) := by
  have ht2 : t % 2 ^ j = 0 := by
    rw [Nat.pow_succ] at ht
    have h1 : t % (2 ^ j * 2) % 2 ^ j = t % 2 ^ j := Nat.mod_mul_right_mod t (2 ^ j) 2
    rw [ht, Nat.zero_mod] at h1
    exact h1.symm
  have hpj := Nat.two_pow_pos j
  have e2j : 2 ^ (j + 1) = 2 ^ j + 2 ^ j := by rw [Nat.pow_succ]; omega
  -- the modes in terms of one crossing
  have m3 : upm (mdS ab (j + 1) t) j 3 = mdS ab (j + 1) t := by
    funext x
    unfold upm mdS
    by_cases hx : x = j
    · rw [if_pos hx, if_pos (by omega)]
    · rw [if_neg hx]
  have m0 : mdS ab j t = upm (mdS ab (j + 1) t) j (mB (ab j) 0) := by
    funext x
    unfold upm mdS
    by_cases hx : x = j
    · rw [if_pos hx, hx, if_neg (by omega), show btN t j = 0 from (bt_j (r := 0) ht hpj).1]
    · rw [if_neg hx]
      by_cases hlt : x < j
      · rw [if_pos hlt, if_pos (by omega)]
      · rw [if_neg hlt, if_neg (by omega)]
  have m1 : mdS ab j (t + 2 ^ j) = upm (mdS ab (j + 1) t) j (mB (ab j) 1) := by
    funext x
    unfold upm mdS
    by_cases hx : x = j
    · rw [if_pos hx, hx, if_neg (by omega), show btN (t + 2 ^ j) j = 1 from (bt_j (r := 0) ht hpj).2]
    · rw [if_neg hx]
      by_cases hlt : x < j
      · rw [if_pos hlt, if_pos (by omega)]
      · rw [if_neg hlt, if_neg (by omega), bt_hi ht (by omega) (by omega)]
  have n0 : ∀ r, r < 2 ^ j → mdS ab 0 (t + r) = upm (mdS ab 0 (t + r)) j (mB (ab j) 0) := by
    intro r hr
    funext x
    unfold upm
    by_cases hx : x = j
    · rw [if_pos hx]
      unfold mdS
      rw [hx, if_neg (by omega), (bt_j ht hr).1]
    · rw [if_neg hx]
  have n1 : ∀ r, r < 2 ^ j → mdS ab 0 (t + 2 ^ j + r) = upm (mdS ab 0 (t + r)) j (mB (ab j) 1) := by
    intro r hr
    funext x
    unfold upm
    by_cases hx : x = j
    · rw [if_pos hx]
      unfold mdS
      rw [hx, if_neg (by omega), (bt_j ht hr).2]
    · rw [if_neg hx]
      unfold mdS
      rw [if_neg (by omega), if_neg (by omega)]
      congr 1
      by_cases hlt : x < j
      · -- a lower bit: 2 ^ j does not reach it
        have h1 : btN (t + 2 ^ j + r) x = btN r x := by
          unfold btN
          obtain ⟨y, rfl⟩ : ∃ y, j = x + 1 + y := ⟨j - x - 1, by omega⟩
          obtain ⟨u, hu⟩ : ∃ u, t = 2 ^ (x + 1 + y) * u := ⟨t / 2 ^ (x + 1 + y), by have := Nat.div_add_mod t (2 ^ (x + 1 + y)); omega⟩
          have e1 : 2 ^ (x + 1 + y) = 2 ^ x * (2 * 2 ^ y) := by rw [Nat.pow_add, Nat.pow_succ, Nat.mul_assoc]
          rw [hu, e1, show 2 ^ x * (2 * 2 ^ y) * u + 2 ^ x * (2 * 2 ^ y) + r = 2 ^ x * (2 * (2 ^ y * u + 2 ^ y)) + r by rw [Nat.mul_add 2, Nat.mul_add (2 ^ x), Nat.mul_assoc, Nat.mul_assoc], Nat.mul_add_div (Nat.two_pow_pos x)]
          omega
        have h2 : btN (t + r) x = btN r x := by
          unfold btN
          obtain ⟨y, rfl⟩ : ∃ y, j = x + 1 + y := ⟨j - x - 1, by omega⟩
          obtain ⟨u, hu⟩ : ∃ u, t = 2 ^ (x + 1 + y) * u := ⟨t / 2 ^ (x + 1 + y), by have := Nat.div_add_mod t (2 ^ (x + 1 + y)); omega⟩
          have e1 : 2 ^ (x + 1 + y) = 2 ^ x * (2 * 2 ^ y) := by rw [Nat.pow_add, Nat.pow_succ, Nat.mul_assoc]
          rw [hu, e1, show 2 ^ x * (2 * 2 ^ y) * u + r = 2 ^ x * (2 * (2 ^ y * u)) + r by rw [Nat.mul_assoc, Nat.mul_assoc], Nat.mul_add_div (Nat.two_pow_pos x)]
          omega
        rw [h1, h2]
      · rw [Nat.add_assoc, bt_hi ht (show 2 ^ j + r < 2 ^ (j + 1) by omega) (by omega), bt_hi ht (show r < 2 ^ (j + 1) by omega) (by omega)]
  have fin : ∀ r, r < 2 ^ j → ∀ K, sat q c (upm (mdS ab (j + 1) t) j 0) K → sat q c (upm (mdS ab 0 (t + r)) j 0) K := by
    intro r hr K hK x hx
    have h1 := hK x hx
    unfold upm at h1 ⊢
    by_cases hxj : x = j
    · rw [if_pos hxj] at h1 ⊢
      exact h1
    · rw [if_neg hxj] at h1 ⊢
      unfold mdS at h1 ⊢
      rw [if_neg (show ¬ x < 0 by omega)]
      by_cases hlt : x < j
      · rw [if_pos (by omega)] at h1
        exact ⟨fun _ => h1.1 (Or.inr rfl), fun _ => h1.2 (Or.inr rfl)⟩
      · rw [if_neg (by omega)] at h1
        rw [bt_hi ht (show r < 2 ^ (j + 1) by omega) (by omega)]
        exact h1
  unfold ell2 ell
  rw [m0, m1]
  have hk := kinds (V := V) hj hE hev (mdS_full (ab := ab) (j := j + 1) (t := t))
  rw [m3] at hk
  have two : (mB (ab j) 0 = 1 ∧ mB (ab j) 1 = 2) ∨ (mB (ab j) 0 = 2 ∧ mB (ab j) 1 = 1) := by
    cases ab j
    · exact Or.inl ⟨rfl, rfl⟩
    · exact Or.inr ⟨rfl, rfl⟩
  rcases two with ⟨t0, t1⟩ | ⟨t0, t1⟩
  · rw [t0, t1]
    rw [t0] at n0
    rw [t1] at n1
    rcases hk with ⟨h1, h2⟩ | ⟨h1, h2⟩ | ⟨h1, h2⟩
    · exact Or.inl ⟨h1, h2⟩
    · refine Or.inr (Or.inl ⟨h1, fun r hr => ?_⟩)
      rw [n1 r hr, n0 r hr]
      have := h2 _ mdS_full (fin r hr)
      rw [← n0 r hr] at this ⊢
      exact this
    · refine Or.inr (Or.inr ⟨h1, fun r hr => ?_⟩)
      rw [n1 r hr, n0 r hr]
      have := h2 _ mdS_full (fin r hr)
      rw [← n0 r hr] at this ⊢
      exact this
  · rw [t0, t1]
    rw [t0] at n0
    rw [t1] at n1
    rcases hk with ⟨h1, h2⟩ | ⟨h1, h2⟩ | ⟨h1, h2⟩
    · exact Or.inl ⟨h2, h1⟩
    · refine Or.inr (Or.inr ⟨h1, fun r hr => ?_⟩)
      rw [n1 r hr, n0 r hr]
      have := h2 _ mdS_full (fin r hr)
      rw [← n0 r hr] at this ⊢
      exact this
    · refine Or.inr (Or.inl ⟨h1, fun r hr => ?_⟩)
      rw [n1 r hr, n0 r hr]
      have := h2 _ mdS_full (fin r hr)
      rw [← n0 r hr] at this ⊢
      exact this
theorem md_pow {j t : Nat} (ht : t % 2 ^ (j + 1) = 0) : t % 2 ^ j = 0 ∧ (t + 2 ^ j) % 2 ^ j = 0 := by
  have ht2 : t % 2 ^ j = 0 := by
    rw [Nat.pow_succ] at ht
    have h1 : t % (2 ^ j * 2) % 2 ^ j = t % 2 ^ j := Nat.mod_mul_right_mod t (2 ^ j) 2
    rw [ht, Nat.zero_mod] at h1
    exact h1.symm
  exact ⟨ht2, by rw [Nat.add_mod_right]; exact ht2⟩
/-- all generators -/
theorem gen_all (hE : ends q c V) (hev : evn q c) : ∀ (j t : Nat), j ≤ c → t % 2 ^ j = 0 → smA (fun s => 2 ^ (ell q c V ab s + e)) t (2 ^ j) ≤ 3 ^ j * 2 ^ (ell2 q c V ab j t + e)
  | 0, t, _, _ => by
    show 0 + 2 ^ (ell q c V ab (t + 0) + e) ≤ 1 * 2 ^ (ell2 q c V ab 0 t + e)
    rw [Nat.add_zero, Nat.zero_add, Nat.one_mul]
    exact Nat.le_refl _
  | j + 1, t, hj, ht => by
    obtain ⟨p1, p2⟩ := md_pow ht
    have i1 := gen_all hE hev j t (by omega) p1
    have i2 := gen_all hE hev j (t + 2 ^ j) (by omega) p2
    have e2 : 2 ^ (j + 1) = 2 ^ j + 2 ^ j := by rw [Nat.pow_succ]; omega
    rw [e2, smA_add, Nat.pow_succ]
    generalize hG : 3 ^ j * 2 ^ (ell2 q c V ab (j + 1) t + e) = G
    rw [show 3 ^ j * 3 * 2 ^ (ell2 q c V ab (j + 1) t + e) = 3 * G by rw [← hG, Nat.mul_comm (3 ^ j) 3, Nat.mul_assoc]]
    rcases kinds2 (ab := ab) (by omega) hE hev ht with ⟨h1, h2⟩ | ⟨h1, h2⟩ | ⟨h1, h2⟩
    · rw [h1, hG] at i1
      rw [h2, hG] at i2
      omega
    · rw [h1, hG] at i1
      have : smA (fun s => 2 ^ (ell q c V ab s + e)) (t + 2 ^ j) (2 ^ j) = smA (fun s => 2 * 2 ^ (ell q c V ab s + e)) t (2 ^ j) := smA_eq _ (fun r hr => by
        show 2 ^ (ell q c V ab (t + 2 ^ j + r) + e) = 2 * 2 ^ (ell q c V ab (t + r) + e)
        rw [h2 r hr, show ell q c V ab (t + r) + 1 + e = ell q c V ab (t + r) + e + 1 by omega, Nat.pow_succ]
        omega)
      rw [this, smA_mul]
      omega
    · rw [h1, hG] at i2
      have : smA (fun s => 2 ^ (ell q c V ab s + e)) t (2 ^ j) = smA (fun s => 2 * 2 ^ (ell q c V ab s + e)) (t + 2 ^ j) (2 ^ j) := smA_eq _ (fun r hr => by
        show 2 ^ (ell q c V ab (t + r) + e) = 2 * 2 ^ (ell q c V ab (t + 2 ^ j + r) + e)
        rw [h2 r hr, show ell q c V ab (t + 2 ^ j + r) + 1 + e = ell q c V ab (t + 2 ^ j + r) + e + 1 by omega, Nat.pow_succ]
        omega)
      rw [this, smA_mul]
      omega
end CNT
/-! the greatest block -/
def mbt (n : Nat) : Nat := [1, 1, 2, 3, 6, 10, 20, 35, 70, 126].getD n 5000000
theorem mbt_mono {a b : Nat} (h : a ≤ b) : mbt a ≤ mbt b := by
  have key : ∀ b : Fin 11, ∀ a : Fin 11, a.val ≤ b.val → mbt a.val ≤ mbt b.val := by decide
  have big : ∀ n, 10 ≤ n → mbt n = 5000000 := by
    intro n hn
    unfold mbt
    rw [List.getD_eq_getElem?_getD, List.getElem?_eq_none (by simpa using hn)]
    rfl
  rcases Nat.lt_or_ge b 10 with hb | hb
  · exact key ⟨b, by omega⟩ ⟨a, by omega⟩ h
  · rw [big b hb]
    rcases Nat.lt_or_ge a 10 with ha | ha
    · have := key ⟨10, by omega⟩ ⟨a, by omega⟩ (show a ≤ 10 by omega)
      rw [big 10 (by omega)] at this
      exact this
    · rw [big a ha]
      exact Nat.le_refl _
/-- weights by ones and loops -/
abbrev WF := Nat → Nat → Nat
def dcW (W : WF) : WF := fun h d => if h = 0 then 0 else W (h - 1) d
def up1 (W : WF) : WF := fun h d => W h d + dcW W h (d + 1)
def up0 (W : WF) : WF := fun h d => W h (d + 1) + dcW W h d
def u0n (W : WF) : Nat → WF
  | 0 => W
  | a + 1 => up0 (u0n W a)
def u1n (W : WF) : Nat → WF
  | 0 => W
  | b + 1 => up1 (u1n W b)
def abW (W : WF) (a b : Nat) : WF := u1n (u0n W a) b
theorem dc_up1 {W : WF} : dcW (up1 W) = up1 (dcW W) := by
  funext h d
  unfold up1 dcW
  by_cases h0 : h = 0
  · rw [if_pos h0, if_pos h0, if_pos h0]
  · rw [if_neg h0, if_neg h0, if_neg h0]
theorem dc_up0 {W : WF} : dcW (up0 W) = up0 (dcW W) := by
  funext h d
  unfold up0 dcW
  by_cases h0 : h = 0
  · rw [if_pos h0, if_pos h0, if_pos h0]
  · rw [if_neg h0, if_neg h0, if_neg h0]
theorem up_comm {W : WF} : up0 (up1 W) = up1 (up0 W) := by
  funext h d
  have e1 : dcW (up1 W) h d = dcW W h d + dcW (dcW W) h (d + 1) := by rw [dc_up1]; rfl
  have e2 : dcW (up0 W) h (d + 1) = dcW W h (d + 1 + 1) + dcW (dcW W) h (d + 1) := by rw [dc_up0]; rfl
  show up1 W h (d + 1) + dcW (up1 W) h d = up0 W h d + dcW (up0 W) h (d + 1)
  rw [e1, e2]
  show W h (d + 1) + dcW W h (d + 1 + 1) + _ = W h (d + 1) + dcW W h d + _
  omega
theorem ab_up1 {W : WF} : ∀ a b, abW (up1 W) a b = up1 (abW W a b)
  | 0, 0 => rfl
  | a + 1, 0 => by
    show up0 (abW (up1 W) a 0) = up1 (up0 (abW W a 0))
    rw [ab_up1 a 0, up_comm]
  | a, b + 1 => by
    show up1 (abW (up1 W) a b) = up1 (up1 (abW W a b))
    rw [ab_up1 a b]
theorem ab_up0 {W : WF} : ∀ a b, abW (up0 W) a b = up0 (abW W a b)
  | 0, 0 => rfl
  | a + 1, 0 => by
    show up0 (abW (up0 W) a 0) = up0 (up0 (abW W a 0))
    rw [ab_up0 a 0]
  | a, b + 1 => by
    show up1 (abW (up0 W) a b) = up0 (up1 (abW W a b))
    rw [ab_up0 a b, up_comm]
theorem ab_up0' {W : WF} : ∀ a b, up0 (abW W a b) = abW W (a + 1) b
  | a, 0 => by cases a <;> rfl
  | a, b + 1 => by
    show up0 (up1 (abW W a b)) = up1 (abW W (a + 1) b)
    rw [up_comm, ab_up0' a b]
theorem ab_add {W U : WF} : ∀ a b, abW (fun h d => W h d + dcW U h d) a b = fun h d => abW W a b h d + dcW (abW U a b) h d
  | 0, 0 => rfl
  | a + 1, 0 => by
    show up0 (abW (fun h d => W h d + dcW U h d) a 0) = _
    rw [ab_add a 0]
    funext h d
    have e2 : dcW (abW U (a + 1) 0) h d = dcW (abW U a 0) h (d + 1) + dcW (dcW (abW U a 0)) h d := by
      show dcW (up0 (abW U a 0)) h d = _
      rw [dc_up0]; rfl
    rw [e2]
    show abW W a 0 h (d + 1) + dcW (abW U a 0) h (d + 1) + dcW (fun h d => abW W a 0 h d + dcW (abW U a 0) h d) h d = abW W a 0 h (d + 1) + dcW (abW W a 0) h d + _
    have e3 : dcW (fun h d => abW W a 0 h d + dcW (abW U a 0) h d) h d = dcW (abW W a 0) h d + dcW (dcW (abW U a 0)) h d := by
      unfold dcW
      by_cases h0 : h = 0
      · rw [if_pos h0, if_pos h0, if_pos h0]
      · rw [if_neg h0, if_neg h0, if_neg h0]
    rw [e3]
    omega
  | a, b + 1 => by
    show up1 (abW (fun h d => W h d + dcW U h d) a b) = _
    rw [ab_add a b]
    funext h d
    have e2 : dcW (abW U a (b + 1)) h d = dcW (abW U a b) h d + dcW (dcW (abW U a b)) h (d + 1) := by
      have : abW U a (b + 1) = up1 (abW U a b) := by cases a <;> rfl
      rw [this, dc_up1]; rfl
    have e4 : abW W a (b + 1) = up1 (abW W a b) := by cases a <;> rfl
    rw [e2, e4]
    show abW W a b h d + dcW (abW U a b) h d + dcW (fun h d => abW W a b h d + dcW (abW U a b) h d) h (d + 1) = abW W a b h d + dcW (abW W a b) h (d + 1) + _
    have e3 : dcW (fun h d => abW W a b h d + dcW (abW U a b) h d) h (d + 1) = dcW (abW W a b) h (d + 1) + dcW (dcW (abW U a b)) h (d + 1) := by
      unfold dcW
      by_cases h0 : h = 0
      · rw [if_pos h0, if_pos h0, if_pos h0]
      · rw [if_neg h0, if_neg h0, if_neg h0]
    rw [e3]
    omega
theorem dc_mono {W U : WF} (h : ∀ h d, W h d ≤ U h d) : ∀ h d, dcW W h d ≤ dcW U h d := by
  intro g d
  unfold dcW
  by_cases h0 : g = 0
  · rw [if_pos h0, if_pos h0]; exact Nat.le_refl _
  · rw [if_neg h0, if_neg h0]; exact h _ _
theorem ab_mono {W U : WF} (h : ∀ h d, W h d ≤ U h d) : ∀ a b h d, abW W a b h d ≤ abW U a b h d
  | 0, 0, g, d => h g d
  | a + 1, 0, g, d => Nat.add_le_add (ab_mono h a 0 g (d + 1)) (dc_mono (ab_mono h a 0) g d)
  | 0, b + 1, g, d => Nat.add_le_add (ab_mono h 0 b g d) (dc_mono (ab_mono h 0 b) g (d + 1))
  | a + 1, b + 1, g, d => Nat.add_le_add (ab_mono h (a + 1) b g d) (dc_mono (ab_mono h (a + 1) b) g (d + 1))
/-- one state with k loops -/
def W1 (k : Nat) : WF := fun h d => if h = 0 then mbt (k + d) else 0
def tbK : Nat → List (List (List (List Nat)))
  | 1 => [[[[1,0,0,0,0,0,0,0,0],[2,2,0,0,0,0,0,0,0],[3,4,3,0,0,0,0,0,0],[6,10,10,6,0,0,0,0,0],[10,24,24,24,10,0,0,0,0],[20,50,62,62,50,20,0,0,0],[35,120,160,160,160,120,35,0,0],[70,245,420,426,426,420,245,70,0],[126,560,980,1140,1140,1140,980,560,126]],[[1,2,0,0,0,0,0,0,0],[2,4,3,0,0,0,0,0,0],[3,10,10,6,0,0,0,0,0],[6,19,24,24,10,0,0,0,0],[10,44,62,62,50,20,0,0,0],[20,85,160,160,160,120,35,0,0],[35,190,360,426,426,420,245,70,0],[70,371,910,1140,1140,1140,980,560,126]],[[1,4,3,0,0,0,0,0,0],[2,7,10,6,0,0,0,0,0],[3,16,24,24,10,0,0,0,0],[6,29,62,62,50,20,0,0,0],[10,64,133,160,160,120,35,0,0],[20,120,330,426,426,420,245,70,0],[35,260,696,1140,1140,1140,980,560,126]],[[1,6,9,6,0,0,0,0,0],[2,10,24,24,10,0,0,0,0],[3,22,49,62,50,20,0,0,0],[6,39,120,160,160,120,35,0,0],[10,84,243,426,426,420,245,70,0],[20,155,570,981,1140,1140,980,560,126]],[[1,8,18,24,10,0,0,0,0],[2,13,44,60,50,20,0,0,0],[3,28,85,160,160,120,35,0,0],[6,49,198,357,426,420,245,70,0],[10,104,388,912,1140,1140,980,560,126]],[[1,10,30,60,50,20,0,0,0],[2,16,70,130,160,120,35,0,0],[3,34,131,330,420,420,245,70,0],[6,59,296,696,1140,1140,980,560,126]],[[1,12,45,120,150,120,35,0,0],[2,19,102,245,420,420,245,70,0],[3,40,187,592,970,1140,980,560,126]],[[1,14,63,210,350,420,245,70,0],[2,22,140,413,910,1120,980,560,126]],[[1,16,84,336,700,1120,980,560,126]]],[[[2,1,0,0,0,0,0,0,0],[3,4,2,0,0,0,0,0,0],[6,10,10,3,0,0,0,0,0],[10,24,24,19,6,0,0,0,0],[20,50,62,62,44,10,0,0,0],[35,120,160,160,160,85,20,0,0],[70,245,420,426,426,360,190,35,0],[126,560,980,1140,1140,1140,910,371,70]],[[2,4,2,0,0,0,0,0,0],[3,10,10,3,0,0,0,0,0],[6,19,24,19,6,0,0,0,0],[10,44,62,62,44,10,0,0,0],[20,85,160,160,160,85,20,0,0],[35,190,360,426,426,360,190,35,0],[70,371,910,1140,1140,1140,910,371,70]],[[2,7,10,3,0,0,0,0,0],[3,16,24,19,6,0,0,0,0],[6,29,62,62,44,10,0,0,0],[10,64,133,160,160,85,20,0,0],[20,120,330,426,426,360,190,35,0],[35,260,696,1140,1140,1140,910,371,70]],[[2,10,24,19,6,0,0,0,0],[3,22,49,62,44,10,0,0,0],[6,39,120,160,160,85,20,0,0],[10,84,243,426,426,360,190,35,0],[20,155,570,981,1140,1140,910,371,70]],[[2,13,44,58,44,10,0,0,0],[3,28,85,160,160,85,20,0,0],[6,49,198,357,426,360,190,35,0],[10,104,388,912,1140,1140,910,371,70]],[[2,16,70,130,160,85,20,0,0],[3,34,131,330,420,360,190,35,0],[6,59,296,696,1140,1140,910,371,70]],[[2,19,102,245,420,360,190,35,0],[3,40,187,592,970,1140,910,371,70]],[[2,22,140,413,910,1085,910,371,70]]],[[[3,4,1,0,0,0,0,0,0],[6,10,7,2,0,0,0,0,0],[10,24,24,16,3,0,0,0,0],[20,50,62,62,29,6,0,0,0],[35,120,160,160,133,64,10,0,0],[70,245,420,426,426,330,120,20,0],[126,560,980,1140,1140,1140,696,260,35]],[[3,10,7,2,0,0,0,0,0],[6,19,24,16,3,0,0,0,0],[10,44,62,62,29,6,0,0,0],[20,85,160,160,133,64,10,0,0],[35,190,360,426,426,330,120,20,0],[70,371,910,1140,1140,1140,696,260,35]],[[3,16,23,16,3,0,0,0,0],[6,29,62,62,29,6,0,0,0],[10,64,133,160,133,64,10,0,0],[20,120,330,426,426,330,120,20,0],[35,260,696,1140,1140,1140,696,260,35]],[[3,22,49,62,29,6,0,0,0],[6,39,120,160,133,64,10,0,0],[10,84,243,426,426,330,120,20,0],[20,155,570,981,1140,1140,696,260,35]],[[3,28,85,160,133,64,10,0,0],[6,49,198,357,426,330,120,20,0],[10,104,388,912,1140,1140,696,260,35]],[[3,34,131,330,405,330,120,20,0],[6,59,296,696,1140,1140,696,260,35]],[[3,40,187,592,970,1140,696,260,35]]],[[[6,9,6,1,0,0,0,0,0],[10,24,24,10,2,0,0,0,0],[20,50,62,49,22,3,0,0,0],[35,120,160,160,120,39,6,0,0],[70,245,420,426,426,243,84,10,0],[126,560,980,1140,1140,981,570,155,20]],[[6,19,24,10,2,0,0,0,0],[10,44,62,49,22,3,0,0,0],[20,85,160,160,120,39,6,0,0],[35,190,360,426,426,243,84,10,0],[70,371,910,1140,1140,981,570,155,20]],[[6,29,62,49,22,3,0,0,0],[10,64,133,160,120,39,6,0,0],[20,120,330,426,426,243,84,10,0],[35,260,696,1140,1140,981,570,155,20]],[[6,39,120,153,120,39,6,0,0],[10,84,243,426,426,243,84,10,0],[20,155,570,981,1140,981,570,155,20]],[[6,49,198,357,426,243,84,10,0],[10,104,388,912,1140,981,570,155,20]],[[6,59,296,696,1140,981,570,155,20]]],[[[10,24,18,8,1,0,0,0,0],[20,50,60,44,13,2,0,0,0],[35,120,160,160,85,28,3,0,0],[70,245,420,426,357,198,49,6,0],[126,560,980,1140,1140,912,388,104,10]],[[10,44,58,44,13,2,0,0,0],[20,85,160,160,85,28,3,0,0],[35,190,360,426,357,198,49,6,0],[70,371,910,1140,1140,912,388,104,10]],[[10,64,133,160,85,28,3,0,0],[20,120,330,426,357,198,49,6,0],[35,260,696,1140,1140,912,388,104,10]],[[10,84,243,426,357,198,49,6,0],[20,155,570,981,1140,912,388,104,10]],[[10,104,388,912,1095,912,388,104,10]]],[[[20,50,60,30,10,1,0,0,0],[35,120,160,130,70,16,2,0,0],[70,245,420,420,330,131,34,3,0],[126,560,980,1140,1140,696,296,59,6]],[[20,85,160,130,70,16,2,0,0],[35,190,360,420,330,131,34,3,0],[70,371,910,1140,1140,696,296,59,6]],[[20,120,330,405,330,131,34,3,0],[35,260,696,1140,1140,696,296,59,6]],[[20,155,570,981,1140,696,296,59,6]]],[[[35,120,150,120,45,12,1,0,0],[70,245,420,420,245,102,19,2,0],[126,560,980,1140,970,592,187,40,3]],[[35,190,360,420,245,102,19,2,0],[70,371,910,1140,970,592,187,40,3]],[[35,260,696,1140,970,592,187,40,3]]],[[[70,245,420,350,210,63,14,1,0],[126,560,980,1120,910,413,140,22,2]],[[70,371,910,1085,910,413,140,22,2]]],[[[126,560,980,1120,700,336,84,16,1]]]]
  | 2 => [[[[2,0,0,0,0,0,0,0,0],[3,3,0,0,0,0,0,0,0],[6,8,6,0,0,0,0,0,0],[10,18,18,10,0,0,0,0,0],[20,40,46,40,20,0,0,0,0],[35,100,116,116,100,35,0,0,0],[70,210,300,306,300,210,70,0,0],[126,490,735,810,810,735,490,126,0]],[[2,3,0,0,0,0,0,0,0],[3,8,6,0,0,0,0,0,0],[6,16,18,10,0,0,0,0,0],[10,38,46,40,20,0,0,0,0],[20,75,116,116,100,35,0,0,0],[35,170,275,306,300,210,70,0,0],[70,336,720,810,810,735,490,126,0]],[[2,6,6,0,0,0,0,0,0],[3,14,18,10,0,0,0,0,0],[6,26,46,40,20,0,0,0,0],[10,58,104,116,100,35,0,0,0],[20,110,266,306,300,210,70,0,0],[35,240,576,810,810,735,490,126,0]],[[2,9,18,10,0,0,0,0,0],[3,20,39,40,20,0,0,0,0],[6,36,98,116,100,35,0,0,0],[10,78,204,306,300,210,70,0,0],[20,145,486,738,810,735,490,126,0]],[[2,12,36,40,20,0,0,0,0],[3,26,72,116,100,35,0,0,0],[6,46,170,272,300,210,70,0,0],[10,98,339,714,810,735,490,126,0]],[[2,15,60,100,100,35,0,0,0],[3,32,115,260,300,210,70,0,0],[6,56,262,565,810,735,490,126,0]],[[2,18,90,200,300,210,70,0,0],[3,38,168,490,725,735,490,126,0]],[[2,21,126,350,700,735,490,126,0]]],[[[3,2,0,0,0,0,0,0,0],[6,8,3,0,0,0,0,0,0],[10,18,16,6,0,0,0,0,0],[20,40,46,38,10,0,0,0,0],[35,100,116,116,75,20,0,0,0],[70,210,300,306,275,170,35,0,0],[126,490,735,810,810,720,336,70,0]],[[3,8,3,0,0,0,0,0,0],[6,16,16,6,0,0,0,0,0],[10,38,46,38,10,0,0,0,0],[20,75,116,116,75,20,0,0,0],[35,170,275,306,275,170,35,0,0],[70,336,720,810,810,720,336,70,0]],[[3,14,16,6,0,0,0,0,0],[6,26,46,38,10,0,0,0,0],[10,58,104,116,75,20,0,0,0],[20,110,266,306,275,170,35,0,0],[35,240,576,810,810,720,336,70,0]],[[3,20,39,38,10,0,0,0,0],[6,36,98,116,75,20,0,0,0],[10,78,204,306,275,170,35,0,0],[20,145,486,738,810,720,336,70,0]],[[3,26,72,116,75,20,0,0,0],[6,46,170,272,275,170,35,0,0],[10,98,339,714,810,720,336,70,0]],[[3,32,115,260,275,170,35,0,0],[6,56,262,565,810,720,336,70,0]],[[3,38,168,490,725,720,336,70,0]]],[[[6,6,2,0,0,0,0,0,0],[10,18,14,3,0,0,0,0,0],[20,40,46,26,6,0,0,0,0],[35,100,116,104,58,10,0,0,0],[70,210,300,306,266,110,20,0,0],[126,490,735,810,810,576,240,35,0]],[[6,16,14,3,0,0,0,0,0],[10,38,46,26,6,0,0,0,0],[20,75,116,104,58,10,0,0,0],[35,170,275,306,266,110,20,0,0],[70,336,720,810,810,576,240,35,0]],[[6,26,46,26,6,0,0,0,0],[10,58,104,104,58,10,0,0,0],[20,110,266,306,266,110,20,0,0],[35,240,576,810,810,576,240,35,0]],[[6,36,98,104,58,10,0,0,0],[10,78,204,306,266,110,20,0,0],[20,145,486,738,810,576,240,35,0]],[[6,46,170,272,266,110,20,0,0],[10,98,339,714,810,576,240,35,0]],[[6,56,262,565,810,576,240,35,0]]],[[[10,18,9,2,0,0,0,0,0],[20,40,39,20,3,0,0,0,0],[35,100,116,98,36,6,0,0,0],[70,210,300,306,204,78,10,0,0],[126,490,735,810,738,486,145,20,0]],[[10,38,39,20,3,0,0,0,0],[20,75,116,98,36,6,0,0,0],[35,170,275,306,204,78,10,0,0],[70,336,720,810,738,486,145,20,0]],[[10,58,104,98,36,6,0,0,0],[20,110,266,306,204,78,10,0,0],[35,240,576,810,738,486,145,20,0]],[[10,78,204,306,204,78,10,0,0],[20,145,486,738,738,486,145,20,0]],[[10,98,339,714,738,486,145,20,0]]],[[[20,40,36,12,2,0,0,0,0],[35,100,116,72,26,3,0,0,0],[70,210,300,272,170,46,6,0,0],[126,490,735,810,714,339,98,10,0]],[[20,75,116,72,26,3,0,0,0],[35,170,275,272,170,46,6,0,0],[70,336,720,810,714,339,98,10,0]],[[20,110,266,272,170,46,6,0,0],[35,240,576,810,714,339,98,10,0]],[[20,145,486,738,714,339,98,10,0]]],[[[35,100,100,60,15,2,0,0,0],[70,210,300,260,115,32,3,0,0],[126,490,735,810,565,262,56,6,0]],[[35,170,275,260,115,32,3,0,0],[70,336,720,810,565,262,56,6,0]],[[35,240,576,810,565,262,56,6,0]]],[[[70,210,300,200,90,18,2,0,0],[126,490,735,725,490,168,38,3,0]],[[70,336,720,725,490,168,38,3,0]]],[[[126,490,735,700,350,126,21,2,0]]]]
  | 3 => [[[[3,0,0,0,0,0,0,0,0],[6,6,0,0,0,0,0,0,0],[10,13,10,0,0,0,0,0,0],[20,32,32,20,0,0,0,0,0],[35,80,78,80,35,0,0,0,0],[70,175,208,208,175,70,0,0,0],[126,420,550,544,550,420,126,0,0]],[[3,6,0,0,0,0,0,0,0],[6,13,10,0,0,0,0,0,0],[10,32,32,20,0,0,0,0,0],[20,65,78,80,35,0,0,0,0],[35,150,208,208,175,70,0,0,0],[70,301,550,544,550,420,126,0,0]],[[3,12,10,0,0,0,0,0,0],[6,23,32,20,0,0,0,0,0],[10,52,78,80,35,0,0,0,0],[20,100,208,208,175,70,0,0,0],[35,220,466,544,550,420,126,0,0]],[[3,18,30,20,0,0,0,0,0],[6,33,78,80,35,0,0,0,0],[10,72,168,208,175,70,0,0,0],[20,135,408,544,550,420,126,0,0]],[[3,24,60,80,35,0,0,0,0],[6,43,144,200,175,70,0,0,0],[10,92,293,544,550,420,126,0,0]],[[3,30,100,200,175,70,0,0,0],[6,53,230,450,550,420,126,0,0]],[[3,36,150,400,525,420,126,0,0]]],[[[6,3,0,0,0,0,0,0,0],[10,13,6,0,0,0,0,0,0],[20,32,32,10,0,0,0,0,0],[35,80,78,65,20,0,0,0,0],[70,175,208,208,150,35,0,0,0],[126,420,550,544,550,301,70,0,0]],[[6,13,6,0,0,0,0,0,0],[10,32,32,10,0,0,0,0,0],[20,65,78,65,20,0,0,0,0],[35,150,208,208,150,35,0,0,0],[70,301,550,544,550,301,70,0,0]],[[6,23,32,10,0,0,0,0,0],[10,52,78,65,20,0,0,0,0],[20,100,208,208,150,35,0,0,0],[35,220,466,544,550,301,70,0,0]],[[6,33,78,65,20,0,0,0,0],[10,72,168,208,150,35,0,0,0],[20,135,408,544,550,301,70,0,0]],[[6,43,144,200,150,35,0,0,0],[10,92,293,544,550,301,70,0,0]],[[6,53,230,450,550,301,70,0,0]]],[[[10,12,3,0,0,0,0,0,0],[20,32,23,6,0,0,0,0,0],[35,80,78,52,10,0,0,0,0],[70,175,208,208,100,20,0,0,0],[126,420,550,544,466,220,35,0,0]],[[10,32,23,6,0,0,0,0,0],[20,65,78,52,10,0,0,0,0],[35,150,208,208,100,20,0,0,0],[70,301,550,544,466,220,35,0,0]],[[10,52,78,52,10,0,0,0,0],[20,100,208,208,100,20,0,0,0],[35,220,466,544,466,220,35,0,0]],[[10,72,168,208,100,20,0,0,0],[20,135,408,544,466,220,35,0,0]],[[10,92,293,544,466,220,35,0,0]]],[[[20,30,18,3,0,0,0,0,0],[35,80,78,33,6,0,0,0,0],[70,175,208,168,72,10,0,0,0],[126,420,550,544,408,135,20,0,0]],[[20,65,78,33,6,0,0,0,0],[35,150,208,168,72,10,0,0,0],[70,301,550,544,408,135,20,0,0]],[[20,100,208,168,72,10,0,0,0],[35,220,466,544,408,135,20,0,0]],[[20,135,408,534,408,135,20,0,0]]],[[[35,80,60,24,3,0,0,0,0],[70,175,200,144,43,6,0,0,0],[126,420,550,544,293,92,10,0,0]],[[35,150,200,144,43,6,0,0,0],[70,301,550,544,293,92,10,0,0]],[[35,220,466,544,293,92,10,0,0]]],[[[70,175,200,100,30,3,0,0,0],[126,420,550,450,230,53,6,0,0]],[[70,301,550,450,230,53,6,0,0]]],[[[126,420,525,400,150,36,3,0,0]]]]
  | 4 => [[[[6,0,0,0,0,0,0,0,0],[10,10,0,0,0,0,0,0,0],[20,26,20,0,0,0,0,0,0],[35,60,60,35,0,0,0,0,0],[70,140,156,140,70,0,0,0,0],[126,350,400,400,350,126,0,0,0]],[[6,10,0,0,0,0,0,0,0],[10,26,20,0,0,0,0,0,0],[20,55,60,35,0,0,0,0,0],[35,130,156,140,70,0,0,0,0],[70,266,400,400,350,126,0,0,0]],[[6,20,20,0,0,0,0,0,0],[10,46,60,35,0,0,0,0,0],[20,90,156,140,70,0,0,0,0],[35,200,366,400,350,126,0,0,0]],[[6,30,60,35,0,0,0,0,0],[10,66,135,140,70,0,0,0,0],[20,125,336,400,350,126,0,0,0]],[[6,40,120,140,70,0,0,0,0],[10,86,250,400,350,126,0,0,0]],[[6,50,200,350,350,126,0,0,0]]],[[[10,6,0,0,0,0,0,0,0],[20,26,10,0,0,0,0,0,0],[35,60,55,20,0,0,0,0,0],[70,140,156,130,35,0,0,0,0],[126,350,400,400,266,70,0,0,0]],[[10,26,10,0,0,0,0,0,0],[20,55,55,20,0,0,0,0,0],[35,130,156,130,35,0,0,0,0],[70,266,400,400,266,70,0,0,0]],[[10,46,55,20,0,0,0,0,0],[20,90,156,130,35,0,0,0,0],[35,200,366,400,266,70,0,0,0]],[[10,66,135,130,35,0,0,0,0],[20,125,336,400,266,70,0,0,0]],[[10,86,250,400,266,70,0,0,0]]],[[[20,20,6,0,0,0,0,0,0],[35,60,46,10,0,0,0,0,0],[70,140,156,90,20,0,0,0,0],[126,350,400,366,200,35,0,0,0]],[[20,55,46,10,0,0,0,0,0],[35,130,156,90,20,0,0,0,0],[70,266,400,366,200,35,0,0,0]],[[20,90,156,90,20,0,0,0,0],[35,200,366,366,200,35,0,0,0]],[[20,125,336,366,200,35,0,0,0]]],[[[35,60,30,6,0,0,0,0,0],[70,140,135,66,10,0,0,0,0],[126,350,400,336,125,20,0,0,0]],[[35,130,135,66,10,0,0,0,0],[70,266,400,336,125,20,0,0,0]],[[35,200,366,336,125,20,0,0,0]]],[[[70,140,120,40,6,0,0,0,0],[126,350,400,250,86,10,0,0,0]],[[70,266,400,250,86,10,0,0,0]]],[[[126,350,350,200,50,6,0,0,0]]]]
  | 5 => [[[[10,0,0,0,0,0,0,0,0],[20,20,0,0,0,0,0,0,0],[35,45,35,0,0,0,0,0,0],[70,110,110,70,0,0,0,0,0],[126,280,276,280,126,0,0,0,0]],[[10,20,0,0,0,0,0,0,0],[20,45,35,0,0,0,0,0,0],[35,110,110,70,0,0,0,0,0],[70,231,276,280,126,0,0,0,0]],[[10,40,35,0,0,0,0,0,0],[20,80,110,70,0,0,0,0,0],[35,180,276,280,126,0,0,0,0]],[[10,60,105,70,0,0,0,0,0],[20,115,270,280,126,0,0,0,0]],[[10,80,210,280,126,0,0,0,0]]],[[[20,10,0,0,0,0,0,0,0],[35,45,20,0,0,0,0,0,0],[70,110,110,35,0,0,0,0,0],[126,280,276,231,70,0,0,0,0]],[[20,45,20,0,0,0,0,0,0],[35,110,110,35,0,0,0,0,0],[70,231,276,231,70,0,0,0,0]],[[20,80,110,35,0,0,0,0,0],[35,180,276,231,70,0,0,0,0]],[[20,115,270,231,70,0,0,0,0]]],[[[35,40,10,0,0,0,0,0,0],[70,110,80,20,0,0,0,0,0],[126,280,276,180,35,0,0,0,0]],[[35,110,80,20,0,0,0,0,0],[70,231,276,180,35,0,0,0,0]],[[35,180,276,180,35,0,0,0,0]]],[[[70,105,60,10,0,0,0,0,0],[126,280,270,115,20,0,0,0,0]],[[70,231,270,115,20,0,0,0,0]]],[[[126,280,210,80,10,0,0,0,0]]]]
  | 6 => [[[[20,0,0,0,0,0,0,0,0],[35,35,0,0,0,0,0,0,0],[70,90,70,0,0,0,0,0,0],[126,210,210,126,0,0,0,0,0]],[[20,35,0,0,0,0,0,0,0],[35,90,70,0,0,0,0,0,0],[70,196,210,126,0,0,0,0,0]],[[20,70,70,0,0,0,0,0,0],[35,160,210,126,0,0,0,0,0]],[[20,105,210,126,0,0,0,0,0]]],[[[35,20,0,0,0,0,0,0,0],[70,90,35,0,0,0,0,0,0],[126,210,196,70,0,0,0,0,0]],[[35,90,35,0,0,0,0,0,0],[70,196,196,70,0,0,0,0,0]],[[35,160,196,70,0,0,0,0,0]]],[[[70,70,20,0,0,0,0,0,0],[126,210,160,35,0,0,0,0,0]],[[70,196,160,35,0,0,0,0,0]]],[[[126,210,105,20,0,0,0,0,0]]]]
  | 7 => [[[[35,0,0,0,0,0,0,0,0],[70,70,0,0,0,0,0,0,0],[126,161,126,0,0,0,0,0,0]],[[35,70,0,0,0,0,0,0,0],[70,161,126,0,0,0,0,0,0]],[[35,140,126,0,0,0,0,0,0]]],[[[70,35,0,0,0,0,0,0,0],[126,161,70,0,0,0,0,0,0]],[[70,161,70,0,0,0,0,0,0]]],[[[126,140,35,0,0,0,0,0,0]]]]
  | 8 => [[[[70,0,0,0,0,0,0,0,0],[126,126,0,0,0,0,0,0,0]],[[70,126,0,0,0,0,0,0,0]]],[[[126,70,0,0,0,0,0,0,0]]]]
  | 9 => [[[[126,0,0,0,0,0,0,0,0]]]]
  | _ => []
def tbR (k a b j : Nat) : List Nat := ((((tbK k).getD a []).getD b []).getD j [])
def tbV (k a b j h : Nat) : Nat := (tbR k a b j).getD h 0
def tbD (k a b j h : Nat) : Nat := if h = 0 then 0 else tbV k a b j (h - 1)
set_option maxRecDepth 20000 in
theorem tb_0 : ∀ k : Fin 9, ∀ a : Fin 9, ∀ b : Fin 9, k.val + a.val + b.val ≤ 8 → ∀ h : Fin 9, abW (W1 (k.val + 1)) a.val b.val h.val 0 ≤ tbV (k.val + 1) a.val b.val 0 h.val := by decide +kernel
set_option maxRecDepth 20000 in
theorem tb_s : ∀ k : Fin 9, ∀ a : Fin 9, ∀ b : Fin 9, ∀ j : Fin 8, k.val + a.val + b.val + j.val + 1 ≤ 8 → ∀ h : Fin 9, tbV (k.val + 1) a.val (b.val + 1) j.val h.val ≤ tbV (k.val + 1) a.val b.val (j.val + 1) h.val ∧ tbV (k.val + 1) (a.val + 1) b.val j.val h.val ≤ tbV (k.val + 1) a.val b.val (j.val + 1) h.val ∧ tbV (k.val + 1) a.val b.val j.val h.val + tbD (k.val + 1) a.val b.val j.val h.val ≤ tbV (k.val + 1) a.val b.val (j.val + 1) h.val := by decide +kernel
theorem tb_m : ∀ k : Fin 9, ∀ j : Fin 9, k.val + j.val ≤ 8 → ∀ h : Fin 9, tbV (k.val + 1) 0 0 j.val h.val ≤ 1140 := by decide +kernel
section CNT2
variable {q : En4} {c V e : Nat} {ab : Nat → Bool}
def Wjt (q : En4) (c V e : Nat) (ab : Nat → Bool) (j t : Nat) : WF := fun h d => lm0 (fun s => mbt (ell q c V ab s + e + d)) j t h
theorem lm0_eq {w u : Nat → Nat} : ∀ (j t s h : Nat), (∀ r, r < 2 ^ j → w (t + r) = u (s + r)) → lm0 w j t h = lm0 u j s h
  | 0, t, s, h, hw => by
    have := hw 0 (by decide)
    show (if h = 0 then w t else 0) = if h = 0 then u s else 0
    rw [show w t = u s from this]
  | j + 1, t, s, h, hw => by
    have e2 : 2 ^ (j + 1) = 2 ^ j + 2 ^ j := by rw [Nat.pow_succ]; omega
    show lm0 w j t h + (if h = 0 then 0 else lm0 w j (t + 2 ^ j) (h - 1)) = lm0 u j s h + if h = 0 then 0 else lm0 u j (s + 2 ^ j) (h - 1)
    rw [lm0_eq j t s h (fun r hr => hw r (by omega)), lm0_eq j (t + 2 ^ j) (s + 2 ^ j) (h - 1) (fun r hr => by
      have := hw (2 ^ j + r) (by omega)
      rw [Nat.add_assoc, Nat.add_assoc]
      exact this)]
theorem blk_le (hE : ends q c V) (hev : evn q c) {k : Nat} (hk1 : 1 ≤ k) : ∀ (j t a b : Nat), j ≤ c → t % 2 ^ j = 0 → ell2 q c V ab j t + e ≤ k → k + a + b + j ≤ 9 → ∀ h, h < 9 → abW (Wjt q c V e ab j t) a b h 0 ≤ tbV k a b j h
  | 0, t, a, b, _, _, hn, hs, h, hh => by
    have h1 : ∀ h d, Wjt q c V e ab 0 t h d ≤ W1 k h d := by
      intro h d
      show (if h = 0 then mbt (ell q c V ab t + e + d) else 0) ≤ if h = 0 then mbt (k + d) else 0
      by_cases h0 : h = 0
      · rw [if_pos h0, if_pos h0]
        have hn : ell q c V ab t + e ≤ k := hn
        exact mbt_mono (by omega)
      · rw [if_neg h0, if_neg h0]
        exact Nat.le_refl _
    have h2 := ab_mono h1 a b h 0
    have h3 := tb_0 ⟨k - 1, by omega⟩ ⟨a, by omega⟩ ⟨b, by omega⟩ (by show k - 1 + a + b ≤ 8; omega) ⟨h, hh⟩
    rw [show k - 1 + 1 = k by omega] at h3
    exact Nat.le_trans h2 h3
  | j + 1, t, a, b, hj, ht, hn, hs, h, hh => by
    obtain ⟨p1, p2⟩ := md_pow ht
    have h3 := tb_s ⟨k - 1, by omega⟩ ⟨a, by omega⟩ ⟨b, by omega⟩ ⟨j, by omega⟩ (by show k - 1 + a + b + j + 1 ≤ 8; omega) ⟨h, hh⟩
    rw [show k - 1 + 1 = k by omega] at h3
    have e2 : 2 ^ (j + 1) = 2 ^ j + 2 ^ j := by rw [Nat.pow_succ]; omega
    have eW : Wjt q c V e ab (j + 1) t = fun h d => Wjt q c V e ab j t h d + dcW (Wjt q c V e ab j (t + 2 ^ j)) h d := by
      funext h d
      rfl
    rcases kinds2 (ab := ab) (by omega) hE hev ht with ⟨g1, g2⟩ | ⟨g1, g2⟩ | ⟨g1, g2⟩
    · rw [eW, ab_add]
      have i1 := blk_le hE hev hk1 j t a b (by omega) p1 (by rw [g1]; exact hn) (by omega) h hh
      have i2 : dcW (abW (Wjt q c V e ab j (t + 2 ^ j)) a b) h 0 ≤ tbD k a b j h := by
        unfold dcW tbD
        by_cases h0 : h = 0
        · rw [if_pos h0, if_pos h0]; exact Nat.le_refl _
        · rw [if_neg h0, if_neg h0]
          exact blk_le hE hev hk1 j (t + 2 ^ j) a b (by omega) p2 (by rw [g2]; exact hn) (by omega) (h - 1) (by omega)
      show abW (Wjt q c V e ab j t) a b h 0 + dcW (abW (Wjt q c V e ab j (t + 2 ^ j)) a b) h 0 ≤ _
      exact Nat.le_trans (Nat.add_le_add i1 i2) h3.2.2
    · have eU : Wjt q c V e ab (j + 1) t = up1 (Wjt q c V e ab j t) := by
        rw [eW]
        funext h d
        show _ + dcW (Wjt q c V e ab j (t + 2 ^ j)) h d = _ + dcW (Wjt q c V e ab j t) h (d + 1)
        congr 1
        unfold dcW
        by_cases h0 : h = 0
        · rw [if_pos h0, if_pos h0]
        · rw [if_neg h0, if_neg h0]
          exact lm0_eq j (t + 2 ^ j) t (h - 1) (fun r hr => by
            show mbt (ell q c V ab (t + 2 ^ j + r) + e + d) = mbt (ell q c V ab (t + r) + e + (d + 1))
            rw [g2 r hr]
            congr 1
            omega)
      rw [eU, ab_up1]
      have e4 : up1 (abW (Wjt q c V e ab j t) a b) = abW (Wjt q c V e ab j t) a (b + 1) := by cases a <;> rfl
      rw [e4]
      exact Nat.le_trans (blk_le hE hev hk1 j t a (b + 1) (by omega) p1 (by rw [g1]; exact hn) (by omega) h hh) h3.1
    · have eU : Wjt q c V e ab (j + 1) t = up0 (Wjt q c V e ab j (t + 2 ^ j)) := by
        rw [eW]
        funext h d
        show Wjt q c V e ab j t h d + _ = Wjt q c V e ab j (t + 2 ^ j) h (d + 1) + _
        congr 1
        exact lm0_eq j t (t + 2 ^ j) h (fun r hr => by
          show mbt (ell q c V ab (t + r) + e + d) = mbt (ell q c V ab (t + 2 ^ j + r) + e + (d + 1))
          rw [g2 r hr]
          congr 1
          omega)
      rw [eU, ab_up0, ab_up0']
      exact Nat.le_trans (blk_le hE hev hk1 j (t + 2 ^ j) (a + 1) b (by omega) p2 (by rw [g1]; exact hn) (by omega) h hh) h3.2.1
/-- no block has more than 1140 -/
theorem blk_1140 (hE : ends q c V) (hev : evn q c) {k : Nat} (hk1 : 1 ≤ k) (hn : ell2 q c V ab c 0 + e ≤ k) (hs : k + c ≤ 9) {h : Nat} (hh : h < 9) : smH (fun s => mbt (ell q c V ab s + e)) h 0 (2 ^ c) ≤ 1140 := by
  rw [smH_lm c 0 h (by omega)]
  have h1 := blk_le hE hev hk1 c 0 0 0 (Nat.le_refl _) (Nat.zero_mod _) hn (by omega) h hh
  have h2 := tb_m ⟨k - 1, by omega⟩ ⟨c, by omega⟩ (by show k - 1 + c ≤ 8; omega) ⟨h, hh⟩
  rw [show k - 1 + 1 = k by omega] at h2
  exact Nat.le_trans h1 h2
end CNT2
end
section
/-! 99zzzv.loops -/
/-! the loops of the reference's states, counted -/
theorem sum_er {g : Nat → Nat} {a : Nat} : ∀ {l : List Nat}, a ∈ l → (l.map g).sum = g a + ((l.erase a).map g).sum
  | [], h => by cases h
  | b :: l, h => by
    by_cases hb : b = a
    · rw [hb, List.erase_cons_head, List.map_cons, List.sum_cons]
    · rw [List.erase_cons_tail (by simpa using hb), List.map_cons, List.map_cons, List.sum_cons, List.sum_cons, sum_er (l := l) (by
        rcases List.mem_cons.mp h with h9 | h9
        · exact absurd h9.symm hb
        · exact h9)]
      omega
theorem sum_nd {g : Nat → Nat} : ∀ {l1 l2 : List Nat}, l1.Nodup → l2.Nodup → (∀ a, a ∈ l1 ↔ a ∈ l2) → (l1.map g).sum = (l2.map g).sum
  | [], l2, _, _, h => by
    cases l2 with
    | nil => rfl
    | cons b l => exact absurd ((h b).mpr List.mem_cons_self) List.not_mem_nil
  | a :: l1, l2, h1, h2, h => by
    have ha : a ∈ l2 := (h a).mp List.mem_cons_self
    obtain ⟨n1, n2⟩ := List.nodup_cons.mp h1
    rw [List.map_cons, List.sum_cons, sum_er ha, sum_nd n2 (h2.erase a) (fun b => by
      rw [h2.mem_erase_iff]
      constructor
      · intro hb
        exact ⟨fun e => n1 (by rw [← e]; exact hb), (h b).mp (List.mem_cons_of_mem _ hb)⟩
      · rintro ⟨hne, hb⟩
        rcases List.mem_cons.mp ((h b).mpr hb) with h9 | h9
        · exact absurd h9 hne
        · exact h9)]
def smT (t : Nat → Nat) : Nat → Nat
  | 0 => 0
  | x + 1 => smT t x + t x
theorem smT_ev {t : Nat → Nat} {j : Nat} : ∀ c, j < c → (∀ x, x < c → x ≠ j → t x % 2 = 0) → smT t c % 2 = t j % 2
  | 0, h, _ => by omega
  | c + 1, h, hx => by
    show (smT t c + t c) % 2 = t j % 2
    by_cases hj : j = c
    · have all : ∀ d, d ≤ c → smT t d % 2 = 0 := by
        intro d
        induction d with
        | zero => intro _; rfl
        | succ d ih =>
          intro hd
          have := ih (by omega)
          have := hx d (by omega) (by omega)
          show (smT t d + t d) % 2 = 0
          omega
      have := all c (Nat.le_refl _)
      rw [hj]
      omega
    · have := smT_ev c (by omega) (fun x h1 h2 => hx x (by omega) h2)
      have := hx c (by omega) (fun e => hj e.symm)
      omega
theorem smT_map {t : Nat → Nat} : ∀ c, smT t c = ((List.range c).map t).sum
  | 0 => rfl
  | c + 1 => by
    show smT t c + t c = _
    rw [List.range_succ, List.map_append, List.sum_append_nat, smT_map c]
    simp
/-- the visit over of a crossing -/
def ovx (A : rn_L) (x : Nat) : Nat := ((List.range A.flatten.length).find? (fun v => decide (crs A v = x) && decide (uns A v = 0))).getD 0
theorem ovx_of {A : rn_L} {c x : Nat} (hok : okF A.flatten c) (hx : x < c) : ovx A x < A.flatten.length ∧ crs A (ovx A x) = x ∧ uns A (ovx A x) = 0 := by
  unfold ovx
  obtain ⟨t, t1, t2, t3⟩ := ok_u hok hx 0 (by omega)
  cases hf : (List.range A.flatten.length).find? (fun v => decide (crs A v = x) && decide (uns A v = 0)) with
  | none =>
    have := List.find?_eq_none.mp hf t (List.mem_range.mpr t1)
    rw [decide_eq_true t2, decide_eq_true t3] at this
    exact absurd rfl this
  | some u =>
    have h1 := List.find?_some hf
    have h2 := List.mem_range.mp (List.mem_of_find?_eq_some hf)
    rw [Bool.and_eq_true, decide_eq_true_iff, decide_eq_true_iff] at h1
    exact ⟨h2, h1.1, h1.2⟩
theorem ovx_eq {A : rn_L} {c v : Nat} (hok : okF A.flatten c) (hv : v < A.flatten.length) (h0 : uns A v = 0) : ovx A (crs A v) = v := by
  have hx : crs A v < c := ((hok.2 _).mp (List.mem_of_getElem? (vAt_of hv))).1
  obtain ⟨h1, h2, h3⟩ := ovx_of hok hx
  refine nodup_at hok.1 (vAt_of h1) ?_
  rw [vAt_of hv]
  congr 1
  exact Prod.ext h2.symm (h0.trans h3.symm)
/-- the four gaps at a crossing -/
def qE (A : rn_L) : En4 := (fun x => rn_pv A (ovx A x), fun x => ovx A x, fun x => rn_pv A (mtf A (ovx A x)), fun x => mtf A (ovx A x))
theorem qE_ends {A : rn_L} {c : Nat} (hok : okF A.flatten c) (hc : c ≤ 40) : ends (qE A) c A.flatten.length := by
  intro x hx
  have hd := wkF_ok (okF_wk hc hok)
  obtain ⟨h1, -, -⟩ := ovx_of hok hx
  have h2 := mtf_lt hd h1
  exact ⟨pv_lt h1, h1, pv_lt h2, h2⟩
theorem qE_evn {A : rn_L} {c : Nat} (hok : okF A.flatten c) (hc : c ≤ 40) : evn (qE A) c := by
  have hF := okF_wk hc hok
  have hd := wkF_ok hF
  intro K j hj hx
  have cnt : ∀ l, ((if K (rn_pv A (ovx A j)) = l then 1 else 0) + (if K (ovx A j) = l then 1 else 0) + (if K (rn_pv A (mtf A (ovx A j))) = l then 1 else 0) + (if K (mtf A (ovx A j)) = l then 1 else 0)) % 2 = 0 := by
    intro l
    let ind : Nat → Nat := fun v => if K v = l then 1 else 0
    let g : Nat → Nat := fun v => ind v + ind (rn_pv A v)
    let t : Nat → Nat := fun x => g (ovx A x) + g (mtf A (ovx A x))
    have s1 : ((List.range A.flatten.length).map g).sum % 2 = 0 := by
      have a1 : ((List.range A.flatten.length).map (fun v => ind (rn_pv A v))).sum = ((List.range A.flatten.length).map ind).sum := by
        have : ((List.range A.flatten.length).map (fun v => ind (rn_pv A v))) = (((List.range A.flatten.length).map (rn_pv A)).map ind) := by rw [List.map_map]; rfl
        rw [this]
        refine sum_nd (nodup_map List.nodup_range (fun a b ha hb e => ?_)) List.nodup_range (fun v => ?_)
        · have := congrArg (rn_nx A) e
          rw [nx_pv (List.mem_range.mp ha), nx_pv (List.mem_range.mp hb)] at this
          exact this
        · rw [List.mem_range]
          constructor
          · intro hv
            obtain ⟨w, hw, e⟩ := List.mem_map.mp hv
            rw [← e]
            exact pv_lt (List.mem_range.mp hw)
          · intro hv
            exact List.mem_map.mpr ⟨rn_nx A v, List.mem_range.mpr (rn_nx_lt hv), pv_nx hv⟩
      have a2 : ∀ l : List Nat, (l.map g).sum = (l.map ind).sum + (l.map (fun v => ind (rn_pv A v))).sum := by
        intro l
        induction l with
        | nil => rfl
        | cons a l ih =>
          rw [List.map_cons, List.map_cons, List.map_cons, List.sum_cons, List.sum_cons, List.sum_cons, ih]
          show ind a + ind (rn_pv A a) + _ = _
          omega
      rw [a2, a1]
      omega
    have s2 : ((List.range A.flatten.length).map g).sum = smT t c := by
      rw [smT_map]
      have b1 : ∀ l : List Nat, (l.map t).sum = (((l.map (ovx A)) ++ (l.map (fun x => mtf A (ovx A x)))).map g).sum := by
        intro l
        rw [List.map_append, List.sum_append_nat]
        induction l with
        | nil => rfl
        | cons a l ih =>
          rw [List.map_cons, List.map_cons, List.map_cons, List.map_cons, List.map_cons, List.sum_cons, List.sum_cons, List.sum_cons, ih]
          show g (ovx A a) + g (mtf A (ovx A a)) + _ = _
          omega
      rw [b1]
      refine sum_nd List.nodup_range ?_ (fun v => ?_)
      · rw [List.nodup_append]
        refine ⟨nodup_map List.nodup_range (fun a b ha hb e => ?_), nodup_map List.nodup_range (fun a b ha hb e => ?_), fun v hv w hw e => ?_⟩
        · have h1 := ovx_of hok (List.mem_range.mp ha)
          have h2 := ovx_of hok (List.mem_range.mp hb)
          rw [← h1.2.1, e, h2.2.1]
        · have h1 := ovx_of hok (List.mem_range.mp ha)
          have h2 := ovx_of hok (List.mem_range.mp hb)
          have e : mtf A (ovx A a) = mtf A (ovx A b) := e
          rw [← h1.2.1, ← crs_mtf hd h1.1, e, crs_mtf hd h2.1, h2.2.1]
        · obtain ⟨a, ha, ea⟩ := List.mem_map.mp hv
          obtain ⟨b, hb, eb⟩ := List.mem_map.mp hw
          have h1 := ovx_of hok (List.mem_range.mp ha)
          have h2 := ovx_of hok (List.mem_range.mp hb)
          -- an over visit is no mate of one
          have e9 : ovx A a = mtf A (ovx A b) := by rw [ea, eb, e]
          have hm := mtf_ne hd h2.1
          refine hm (nodup_at hok.1 (vAt_of (mtf_lt hd h2.1)) ?_)
          rw [vAt_of h2.1]
          congr 1
          refine Prod.ext (crs_mtf hd h2.1).symm ?_
          show uns A (ovx A b) = uns A (mtf A (ovx A b))
          rw [h2.2.2, ← e9, h1.2.2]
      · rw [List.mem_range, List.mem_append]
        constructor
        · intro hv
          have hxv : crs A v < c := ((hok.2 _).mp (List.mem_of_getElem? (vAt_of hv))).1
          by_cases h0 : uns A v = 0
          · exact Or.inl (List.mem_map.mpr ⟨crs A v, List.mem_range.mpr hxv, ovx_eq hok hv h0⟩)
          · refine Or.inr (List.mem_map.mpr ⟨crs A v, List.mem_range.mpr hxv, ?_⟩)
            have e1 := ovx_eq hok (mtf_lt hd hv) (mtf_uns hF hv h0)
            rw [crs_mtf hd hv] at e1
            show mtf A (ovx A (crs A v)) = v
            rw [e1, mtf_mtf hd hv]
        · rintro (h9 | h9)
          · obtain ⟨a, ha, ea⟩ := List.mem_map.mp h9
            rw [← ea]
            exact (ovx_of hok (List.mem_range.mp ha)).1
          · obtain ⟨a, ha, ea⟩ := List.mem_map.mp h9
            rw [← ea]
            exact mtf_lt hd (ovx_of hok (List.mem_range.mp ha)).1
    have s3 : smT t c % 2 = t j % 2 := by
      refine smT_ev c hj (fun x hxc hxj => ?_)
      have h9 : ∀ a b, K a = K b → ind a = ind b := fun a b e => by
        show (if K a = l then 1 else 0) = if K b = l then 1 else 0
        rw [e]
      show (ind (ovx A x) + ind (rn_pv A (ovx A x)) + (ind (mtf A (ovx A x)) + ind (rn_pv A (mtf A (ovx A x))))) % 2 = 0
      rcases hx x hxc hxj with ⟨e1, e2⟩ | ⟨e1, e2⟩
      · have f1 := h9 _ _ e1
        have f2 := h9 _ _ e2
        have f1 : ind (rn_pv A (ovx A x)) = ind (mtf A (ovx A x)) := f1
        have f2 : ind (rn_pv A (mtf A (ovx A x))) = ind (ovx A x) := f2
        omega
      · have f1 := h9 _ _ e1
        have f2 := h9 _ _ e2
        have f1 : ind (rn_pv A (ovx A x)) = ind (rn_pv A (mtf A (ovx A x))) := f1
        have f2 : ind (ovx A x) = ind (mtf A (ovx A x)) := f2
        omega
    have s4 : t j % 2 = 0 := by rw [← s3, ← s2]; exact s1
    have s4 : (ind (ovx A j) + ind (rn_pv A (ovx A j)) + (ind (mtf A (ovx A j)) + ind (rn_pv A (mtf A (ovx A j))))) % 2 = 0 := s4
    show (ind (rn_pv A (ovx A j)) + ind (ovx A j) + ind (rn_pv A (mtf A (ovx A j))) + ind (mtf A (ovx A j))) % 2 = 0
    omega
  show (K (rn_pv A (ovx A j)) = K (ovx A j) ∧ K (rn_pv A (mtf A (ovx A j))) = K (mtf A (ovx A j))) ∨ (K (rn_pv A (ovx A j)) = K (rn_pv A (mtf A (ovx A j))) ∧ K (ovx A j) = K (mtf A (ovx A j))) ∨ (K (rn_pv A (ovx A j)) = K (mtf A (ovx A j)) ∧ K (ovx A j) = K (rn_pv A (mtf A (ovx A j))))
  generalize K (rn_pv A (ovx A j)) = a at *
  generalize K (ovx A j) = b at *
  generalize K (rn_pv A (mtf A (ovx A j))) = cc at *
  generalize K (mtf A (ovx A j)) = d at *
  by_cases hab : a = b
  · by_cases hcd : cc = d
    · exact Or.inl ⟨hab, hcd⟩
    · exfalso
      have := cnt cc
      rw [hab, if_pos (rfl : cc = cc), if_neg (show ¬ d = cc from fun e => hcd e.symm)] at this
      by_cases hbc : b = cc
      · rw [if_pos hbc] at this; omega
      · rw [if_neg hbc] at this; omega
  · by_cases hac : a = cc
    · refine Or.inr (Or.inl ⟨hac, ?_⟩)
      have := cnt b
      rw [if_neg hab, if_pos (rfl : b = b), if_neg (show ¬ cc = b from fun e => hab (hac.trans e))] at this
      by_cases hdb : d = b
      · exact hdb.symm
      · rw [if_neg hdb] at this; omega
    · have h1 := cnt a
      rw [if_pos (rfl : a = a), if_neg (show ¬ b = a from fun e => hab e.symm), if_neg (show ¬ cc = a from fun e => hac e.symm)] at h1
      by_cases hda : d = a
      · refine Or.inr (Or.inr ⟨hda.symm, ?_⟩)
        have := cnt b
        rw [if_neg hab, if_pos (rfl : b = b), if_neg (show ¬ d = b from fun e => hab (hda.symm.trans e))] at this
        by_cases hcb : cc = b
        · exact hcb.symm
        · rw [if_neg hcb] at this; omega
      · rw [if_neg hda] at h1; omega
/-! the machine's loops -/
theorem bit_256 : ∀ a : Fin 16, ∀ b : Fin 16, ∀ x : Fin 8, ((nI (16 * a.val + b.val) >>> (nI x.val &&& 31)) &&& 1) = nI (btN (16 * a.val + b.val) x.val) := by decide +kernel
theorem bit_nI {s x : Nat} (hs : s < 256) (hx : x < 8) : ((nI s >>> (nI x &&& 31)) &&& 1) = nI (btN s x) := by
  have := bit_256 ⟨s / 16, by omega⟩ ⟨s % 16, by omega⟩ ⟨x, hx⟩
  rw [show 16 * (s / 16) + s % 16 = s by omega] at this
  exact this
theorem lpA_j2 {A : rn_L} {sg : Nat → Bool} {st : Int32} : ∀ (V v : Nat), v < V → uns A v = 0 → (alS sg st (crs A v) = true → rt (lpA A sg st V) (rn_pv A v) = rt (lpA A sg st V) (mtf A v) ∧ rt (lpA A sg st V) (rn_pv A (mtf A v)) = rt (lpA A sg st V) v) ∧ (alS sg st (crs A v) = false → rt (lpA A sg st V) (rn_pv A v) = rt (lpA A sg st V) (rn_pv A (mtf A v)) ∧ rt (lpA A sg st V) v = rt (lpA A sg st V) (mtf A v))
  | 0, v, h, _ => by omega
  | V + 1, v, h, hu => by
    have hp := lpA_dn (A := A) (sg := sg) (st := st) V
    by_cases hv : v = V
    · subst hv
      have e : lpA A sg st (v + 1) = lpS A sg st v (lpA A sg st v) := rfl
      rw [e]
      unfold lpS
      rw [if_pos hu]
      refine ⟨fun h2 => ?_, fun h2 => ?_⟩
      · rw [if_pos h2]
        exact ⟨un_k (un_dn hp) (un_j hp), un_j (un_dn hp)⟩
      · rw [if_neg (by rw [h2]; decide)]
        exact ⟨un_k (un_dn hp) (un_j hp), un_j (un_dn hp)⟩
    · obtain ⟨i1, i2⟩ := lpA_j2 (sg := sg) (st := st) V v (by omega) hu
      exact ⟨fun h2 => ⟨lpS_k hp (i1 h2).1, lpS_k hp (i1 h2).2⟩, fun h2 => ⟨lpS_k hp (i2 h2).1, lpS_k hp (i2 h2).2⟩⟩
/-- the machine counts no more loops than there are -/
theorem rts_ell {A : rn_L} {c s : Nat} {sg : Nat → Bool} (hok : okF A.flatten c) (hc : c ≤ 8) (hs : s < 2 ^ c) : rtsN (lpA A sg (nI s) A.flatten.length) A.flatten.length ≤ ell (qE A) c A.flatten.length sg s := by
  have hs2 : s < 256 := Nat.lt_of_lt_of_le hs (two_mono (b := 8) hc)
  let p := lpA A sg (nI s) A.flatten.length
  have hp : dn p := lpA_dn _
  have e1 : rtsN p A.flatten.length = cN A.flatten.length (rt p) := by
    unfold rtsN cN
    congr 1
    refine List.filter_congr (fun x _ => ?_)
    rw [decide_eq_decide]
    constructor
    · intro h y hy e
      have := (rt_in hp y).2
      rw [e, rt_root h] at this
      omega
    · intro h
      refine Classical.byContradiction (fun hne => ?_)
      have h1 := rt_in hp x
      have hlt : rt p x < x := by
        rcases Nat.lt_or_ge (rt p x) x with h9 | h9
        · exact h9
        · have h2 : rt p x = x := by omega
          rw [h2] at h1
          exact absurd h1.1 hne
      exact h (rt p x) hlt (rt_root h1.1)
  have e2 : cN A.flatten.length (rt p) ≤ cN A.flatten.length (lab (qE A) c (mdS sg 0 s)) := by
    refine cN_mono (fun x y _ _ e => lab_min (K := rt p) (fun x hx => ?_) e)
    obtain ⟨o1, o2, o3⟩ := ovx_of hok hx
    obtain ⟨i1, i2⟩ := lpA_j2 (sg := sg) (st := nI s) A.flatten.length (ovx A x) o1 o3
    rw [o2] at i1 i2
    have hal : alS sg (nI s) x = decide (mdS sg 0 s x = 1) := by
      unfold alS mdS mB
      rw [bit_nI hs2 (by omega), if_neg (by omega)]
      have hb : btN s x = 0 ∨ btN s x = 1 := by unfold btN; omega
      rcases hb with hb | hb
      · rw [hb]
        cases sg x <;> rfl
      · rw [hb]
        cases sg x <;> rfl
    have hm : mdS sg 0 s x = 1 ∨ mdS sg 0 s x = 2 := by
      unfold mdS
      rw [if_neg (by omega)]
      exact mB_1
    refine ⟨fun h9 => ?_, fun h9 => ?_⟩
    · have h8 : mdS sg 0 s x = 1 := by omega
      exact i1 (by rw [hal]; exact decide_eq_true h8)
    · have h8 : mdS sg 0 s x ≠ 1 := by omega
      exact i2 (by rw [hal]; exact decide_eq_false h8)
  rw [e1]
  exact e2
/-- with all joins made the classes are the parts with visits -/
theorem ell_parts {A : rn_L} {c P : Nat} {M : Nat → Int32} {sg : Nat → Bool} (hok : okF A.flatten c) (hc : c ≤ 40) (hM : rn_SD A M P) (hM1 : ∀ k, k < A.length → M k ≠ -1) (hP : P ≤ 40) : ell2 (qE A) c A.flatten.length sg c 0 + eC A ≤ P := by
  have hF := okF_wk hc hok
  have hd := wkF_ok hF
  let L := lab (qE A) c (mdS sg c 0)
  have hS := lab_sat (q := qE A) (c := c) (m := mdS sg c 0)
  have all : ∀ v, v < A.flatten.length → L (rn_pv A v) = L v ∧ L (mtf A v) = L v := by
    intro v hv
    have hx : crs A v < c := ((hok.2 _).mp (List.mem_of_getElem? (vAt_of hv))).1
    have h3 : mdS sg c 0 (crs A v) = 3 := by unfold mdS; rw [if_pos hx]
    have h1 := (hS _ hx).1 (Or.inr h3)
    have h2 := (hS _ hx).2 (Or.inr h3)
    have h1 : L (rn_pv A (ovx A (crs A v))) = L (mtf A (ovx A (crs A v))) ∧ L (rn_pv A (mtf A (ovx A (crs A v)))) = L (ovx A (crs A v)) := h1
    have h2 : L (rn_pv A (ovx A (crs A v))) = L (rn_pv A (mtf A (ovx A (crs A v)))) ∧ L (ovx A (crs A v)) = L (mtf A (ovx A (crs A v))) := h2
    by_cases h0 : uns A v = 0
    · rw [ovx_eq hok hv h0] at h1 h2
      exact ⟨by rw [h1.1, ← h2.2], h2.2.symm⟩
    · have e1 := ovx_eq hok (mtf_lt hd hv) (mtf_uns hF hv h0)
      rw [crs_mtf hd hv] at e1
      rw [e1, mtf_mtf hd hv] at h1 h2
      exact ⟨by rw [← h2.1, h1.1], h2.2⟩
  -- a part's visits have one label
  have one : ∀ v w p, p < P → inP A M p v → inP A M p w → L v = L w := fun v w p hp hv hw => inP_one (f := L) hd hM hp (fun v hv => (all v hv.1).1) (fun v hv => (all v hv.1).2) hv hw
  let Pv := (List.range P).filter (fun p => decide (∃ v, v < A.flatten.length ∧ M (rn_c A v) = nI p))
  let Ce := (List.range A.length).filter (fun k => !decide (rn_b A k < rn_b A (k + 1)))
  have h1 : ell2 (qE A) c A.flatten.length sg c 0 ≤ Pv.length := by
    have hex : ∀ p, ∃ l, ∀ v, p < P → inP A M p v → L v = l := by
      intro p
      by_cases hp : ∃ v, p < P ∧ inP A M p v
      · obtain ⟨v, hp, hv⟩ := hp
        exact ⟨L v, fun w _ hw => one w v p hp hw hv⟩
      · exact ⟨0, fun v h1 h2 => absurd ⟨v, h1, h2⟩ hp⟩
    let lf : Nat → Nat := fun p => Classical.choose (hex p)
    refine cN_le ⟨Pv.map lf, by rw [List.length_map]; exact Nat.le_refl _, fun v hv => ?_⟩
    have hcc := (rn_c_in A v hv).1
    rcases hM.1 _ hcc with h9 | ⟨p, hp, e⟩
    · exact absurd h9 (hM1 _ hcc)
    · refine List.mem_map.mpr ⟨p, List.mem_filter.mpr ⟨List.mem_range.mpr hp, decide_eq_true ⟨v, hv, e⟩⟩, ?_⟩
      exact (Classical.choose_spec (hex p) v hp ⟨hv, e⟩).symm
  -- a circle is a part alone
  have alone : ∀ k b p, k < A.length → b < A.length → p < P → ¬ rn_b A k < rn_b A (k + 1) → M k = nI p → M b = nI p → b = k := by
    intro k b p hk hb hp hne e1 e2
    have := hM.2.2.1 k b p hp hk hb e1 e2 (fun x => x = k) rfl (fun x y hx hxy => by
      obtain ⟨v, w, hvw, ev, ew⟩ := hxy
      have hvl := (rn_mt_lt hvw).1
      obtain ⟨g1, g2, g3⟩ := rn_c_in A v hvl
      rw [ev, hx] at g2 g3
      omega)
    exact this
  have hmk : ∀ k, k < A.length → ∃ p, p < P ∧ M k = nI p := fun k hk => by
    rcases hM.1 k hk with h9 | h9
    · exact absurd h9 (hM1 k hk)
    · exact h9
  let mf : Nat → Nat := fun k => (M k).toNatClampNeg
  have h31 : ∀ p, p < P → p < 2 ^ 31 := fun p hp => by omega
  have mfe : ∀ k p, p < P → M k = nI p → mf k = p := fun k p hp e => by
    show (M k).toNatClampNeg = p
    rw [e]
    exact nI_clamp (h31 p hp)
  have hn : (Pv ++ Ce.map mf).Nodup := by
    rw [List.nodup_append]
    refine ⟨List.nodup_range.filter _, nodup_map (List.nodup_range.filter _) (fun k b hk hb e => ?_), fun p hp y hy e => ?_⟩
    · obtain ⟨k1, k2⟩ := List.mem_filter.mp hk
      obtain ⟨b1, b2⟩ := List.mem_filter.mp hb
      have k1 := List.mem_range.mp k1
      have b1 := List.mem_range.mp b1
      obtain ⟨p, hp, ep⟩ := hmk k k1
      obtain ⟨p2, hp2, ep2⟩ := hmk b b1
      have e : mf k = mf b := e
      rw [mfe k p hp ep, mfe b p2 hp2 ep2] at e
      have k2 : ¬ rn_b A k < rn_b A (k + 1) := fun h9 => by rw [decide_eq_true h9] at k2; exact absurd k2 (by decide)
      exact (alone k b p k1 b1 hp k2 ep (by rw [e]; exact ep2)).symm
    · obtain ⟨p1, p2⟩ := List.mem_filter.mp hp
      obtain ⟨v, hv, ev⟩ := of_decide_eq_true p2
      obtain ⟨k, hk, ek⟩ := List.mem_map.mp hy
      obtain ⟨k1, k2⟩ := List.mem_filter.mp hk
      have k1 := List.mem_range.mp k1
      have k2 : ¬ rn_b A k < rn_b A (k + 1) := fun h9 => by rw [decide_eq_true h9] at k2; exact absurd k2 (by decide)
      obtain ⟨p3, hp3, ep3⟩ := hmk k k1
      have e3 := mfe k p3 hp3 ep3
      have hcc := rn_c_in A v hv
      have hpp : p = p3 := by rw [e, ← ek, e3]
      have := alone k (rn_c A v) p3 k1 hcc.1 hp3 k2 ep3 (by rw [← hpp]; exact ev)
      rw [this] at hcc
      omega
  have := nodup_le (Pv ++ Ce.map mf) (List.range P) hn (fun p hp => by
    rcases List.mem_append.mp hp with h9 | h9
    · exact (List.mem_filter.mp h9).1
    · obtain ⟨k, hk, ek⟩ := List.mem_map.mp h9
      have k1 := List.mem_range.mp (List.mem_filter.mp hk).1
      obtain ⟨p3, hp3, ep3⟩ := hmk k k1
      rw [← ek, mfe k p3 hp3 ep3]
      exact List.mem_range.mpr hp3)
  rw [List.length_append, List.length_map, List.length_range] at this
  have hce : Ce.length = eC A := rfl
  omega
end
section
/-! 99zzzw.chainA -/
/-! chain: states and generators -/
theorem byt : ∀ k : Fin 64, vp_nar .byte ((nI k.val).toInt8.toInt32) = nI k.val ∧ vp_nar .byte (nI k.val) = nI k.val := by decide +kernel
/-- the loops of a state as the machine counts them -/
def LcN (A : rn_L) (sg : Nat → Bool) (s : Nat) : Nat := rtsN (lpA A sg (nI s) A.flatten.length) A.flatten.length + eC A
def bsN (A : rn_L) (sg : Nat → Bool) (s : Nat) : Nat := smA (fun s => 2 ^ LcN A sg s) 0 s
/-- what is known of a net small enough for chain -/
def chOK (A : rn_L) (sg : Nat → Bool) (c P : Nat) : Prop := okF A.flatten c ∧ c ≤ 8 ∧ A.length ≤ 6 ∧ (∀ s, s < 2 ^ c → LcN A sg s ≤ 9) ∧ bsN A sg (2 ^ c) ≤ 13122 ∧ ∀ h, smH (fun s => mbt (LcN A sg s)) h 0 (2 ^ c) ≤ 1140
theorem smA_le {w u : Nat → Nat} {t : Nat} : ∀ n, (∀ i, i < n → w (t + i) ≤ u (t + i)) → smA w t n ≤ smA u t n
  | 0, _ => Nat.le_refl _
  | n + 1, h => Nat.add_le_add (smA_le n (fun i hi => h i (by omega))) (h n (by omega))
theorem smH_le {w u : Nat → Nat} {h t : Nat} : ∀ n, (∀ i, i < n → w (t + i) ≤ u (t + i)) → smH w h t n ≤ smH u h t n
  | 0, _ => Nat.le_refl _
  | n + 1, hh => by
    refine Nat.add_le_add (smH_le n (fun i hi => hh i (by omega))) ?_
    split
    · exact hh n (by omega)
    · exact Nat.le_refl _
theorem smH_mono {w : Nat → Nat} {h t a : Nat} : ∀ b, a ≤ b → smH w h t a ≤ smH w h t b
  | 0, hb => by rw [show a = 0 by omega]; exact Nat.le_refl _
  | b + 1, hb => by
    by_cases e : a = b + 1
    · rw [e]; exact Nat.le_refl _
    · have := smH_mono (w := w) (h := h) (t := t) (a := a) b (by omega)
      show smH w h t a ≤ smH w h t b + _
      omega
theorem mbt_9 {n : Nat} (h : mbt n ≤ 1140) : n ≤ 9 := by
  rcases Nat.lt_or_ge 9 n with h9 | h9
  · have := mbt_mono (a := 10) h9
    rw [show mbt 10 = 5000000 from by decide] at this
    omega
  · exact h9
theorem smH_0 {w : Nat → Nat} {h t : Nat} : ∀ n, (∀ i, i < n → pc i ≠ h) → smH w h t n = 0
  | 0, _ => rfl
  | n + 1, hh => by
    show smH w h t n + (if pc n = h then _ else 0) = 0
    rw [smH_0 n (fun i hi => hh i (by omega)), if_neg (hh n (by omega))]
theorem ch_ok {A : rn_L} {c P : Nat} {M : Nat → Int32} {sg : Nat → Bool} (hok : okF A.flatten c) (hC : A.length ≤ 6) (hM : rn_SD A M P) (hM1 : ∀ k, k < A.length → M k ≠ -1) (hP : P ≤ 40) (hP1 : 1 ≤ P) (hcP : c + P ≤ 9) : chOK A sg c P := by
  have hE := qE_ends hok (by omega)
  have hev := qE_evn hok (by omega)
  have hp := ell_parts (sg := sg) hok (by omega) hM hM1 hP
  have hle : ∀ s, s < 2 ^ c → LcN A sg s ≤ ell (qE A) c A.flatten.length sg s + eC A := fun s hs => Nat.add_le_add_right (rts_ell hok (by omega) hs) _
  have hblk : ∀ h, smH (fun s => mbt (ell (qE A) c A.flatten.length sg s + eC A)) h 0 (2 ^ c) ≤ 1140 := by
    intro h
    rcases Nat.lt_or_ge h 9 with h9 | h9
    · exact blk_1140 hE hev hP1 hp (by omega) h9
    · rw [smH_0 _ (fun i hi e => by
        have := pc_le (c := c) hi
        omega)]
      omega
  have hblk2 : ∀ h, smH (fun s => mbt (LcN A sg s)) h 0 (2 ^ c) ≤ 1140 := fun h => Nat.le_trans (smH_le _ (fun i hi => by
    rw [Nat.zero_add]
    exact mbt_mono (hle i hi))) (hblk h)
  refine ⟨hok, by omega, hC, fun s hs => mbt_9 ?_, ?_, hblk2⟩
  · have h1 := smH_mono (w := fun s => mbt (LcN A sg s)) (h := pc s) (t := 0) (a := s + 1) (2 ^ c) hs
    have h2 : mbt (LcN A sg s) ≤ smH (fun s => mbt (LcN A sg s)) (pc s) 0 (s + 1) := by
      show _ ≤ smH _ _ _ s + (if pc s = pc s then mbt (LcN A sg (0 + s)) else 0)
      rw [if_pos rfl, Nat.zero_add]
      omega
    exact Nat.le_trans h2 (Nat.le_trans h1 (hblk2 _))
  · have h1 := gen_all (ab := sg) (e := eC A) hE hev c 0 (Nat.le_refl _) (Nat.zero_mod _)
    have h2 : bsN A sg (2 ^ c) ≤ smA (fun s => 2 ^ (ell (qE A) c A.flatten.length sg s + eC A)) 0 (2 ^ c) := smA_le _ (fun i hi => by
      rw [Nat.zero_add]
      exact two_mono (hle i hi))
    have h3 : 3 ^ c * 2 ^ (ell2 (qE A) c A.flatten.length sg c 0 + eC A) ≤ 3 ^ c * 2 ^ P := Nat.mul_le_mul_left _ (two_mono hp)
    have key : ∀ c : Fin 9, ∀ P : Fin 10, c.val + P.val ≤ 9 → 1 ≤ P.val → 3 ^ c.val * 2 ^ P.val ≤ 13122 := by decide
    have h4 := key ⟨c, by omega⟩ ⟨P, by omega⟩ hcP hP1
    exact Nat.le_trans h2 (Nat.le_trans h1 (Nat.le_trans h3 h4))
/-- what makeStates leaves -/
def stI (y : ow_MS) (A : rn_L) (sg : Nat → Bool) (c : Nat) : Prop := (∀ s, s < 2 ^ c → y.2.1 82 s = nI (LcN A sg s)) ∧ (∀ s, s ≤ 2 ^ c → y.2.1 83 s = nI (bsN A sg s)) ∧ ∀ s g, s < 2 ^ c → g < A.flatten.length → inR y 81 (32 * s + g) (LcN A sg s)
theorem stI_fr {P : Nat → Prop} {y y1 : ow_MS} {A : rn_L} {sg : Nat → Bool} {c : Nat} (hf : fr P y y1) (h1 : ¬ P 81) (h2 : ¬ P 82) (h3 : ¬ P 83) (h : stI y A sg c) : stI y1 A sg c := ⟨fun s hs => by rw [(hf 82 h2).2.1]; exact h.1 s hs, fun s hs => by rw [(hf 83 h3).2.1]; exact h.2.1 s hs, fun s g hs hg => inR_fr hf h1 (h.2.2 s g hs hg)⟩
abbrev stH (g : Nat) : Prop := g = 47 ∨ g = 81 ∨ g = 82 ∨ g = 83
theorem bs_s {A : rn_L} {sg : Nat → Bool} {s : Nat} : bsN A sg (s + 1) = bsN A sg s + 2 ^ LcN A sg s := by
  show smA _ 0 s + 2 ^ LcN A sg (0 + s) = _
  rw [Nat.zero_add]
  rfl
theorem bs_mono {A : rn_L} {sg : Nat → Bool} {a b : Nat} (h : a ≤ b) : bsN A sg a ≤ bsN A sg b := smA_mono b h
theorem i32x {s g : Nat} : (32 : Int32) * nI s + nI g = nI (32 * s + g) := by
  rw [show (32 : Int32) * nI s = nI (32 * s) from pk_mul 32 s, nI_add]
theorem rtsN_mono {p : Nat → Nat} {a : Nat} : ∀ b, a ≤ b → rtsN p a ≤ rtsN p b
  | 0, h => by rw [show a = 0 by omega]; exact Nat.le_refl _
  | b + 1, h => by
    by_cases e : a = b + 1
    · rw [e]; exact Nat.le_refl _
    · have := rtsN_mono (p := p) (a := a) b (by omega)
      rw [rtsN_s]
      omega
section CHA
variable {z : ow_MS}
theorem u_X13_makeStates_1 {x2 : Int32} {x3 : Int32} {x4 : Int32} {x5 : Int32} {x6 : Int32} {x7 : Int32} {r1 : Nat} {z : ow_MS} {Q : ow_MS → Prop} (H : Tt (fun K k => qm_X13_makeStates_1 K (q_X13_makeStates K k) x2 x3 x4 x5 x6 x7 r1 z) Q) : Tt (fun K k => q_X13_makeStates K k 1 x2 x3 x4 x5 x6 x7 r1 z) Q := w_un (fun _ _ => rfl) H
theorem u_X13_makeStates_4 {x2 : Int32} {x3 : Int32} {x4 : Int32} {x5 : Int32} {x6 : Int32} {x7 : Int32} {r1 : Nat} {z : ow_MS} {Q : ow_MS → Prop} (H : Tt (fun K k => qm_X13_makeStates_4 K (q_X13_makeStates K k) x2 x3 x4 x5 x6 x7 r1 z) Q) : Tt (fun K k => q_X13_makeStates K k 4 x2 x3 x4 x5 x6 x7 r1 z) Q := w_un (fun _ _ => rfl) H
theorem u_X13_makeStates_2 {x2 : Int32} {x3 : Int32} {x4 : Int32} {x5 : Int32} {x6 : Int32} {x7 : Int32} {r1 : Nat} {z : ow_MS} {Q : ow_MS → Prop} (H : Tt (fun K k => qm_X13_makeStates_2 K (q_X13_makeStates K k) x2 x3 x4 x5 x6 x7 r1 z) Q) : Tt (fun K k => q_X13_makeStates K k 2 x2 x3 x4 x5 x6 x7 r1 z) Q := w_un (fun _ _ => rfl) H
theorem u_X13_makeStates_3 {x2 : Int32} {x3 : Int32} {x4 : Int32} {x5 : Int32} {x6 : Int32} {x7 : Int32} {r1 : Nat} {z : ow_MS} {Q : ow_MS → Prop} (H : Tt (fun K k => qm_X13_makeStates_3 K (q_X13_makeStates K k) x2 x3 x4 x5 x6 x7 r1 z) Q) : Tt (fun K k => q_X13_makeStates K k 3 x2 x3 x4 x5 x6 x7 r1 z) Q := w_un (fun _ _ => rfl) H
theorem e_X13_makeStates {r1 : Nat} {z : ow_MS} {Q : ow_MS → Prop} (H : Tt (fun K k => q_X13_makeStates K k 0 0 0 0 0 0 0 r1 z) Q) : Te (fun K => qe_X13_makeStates K r1 z) Q := w_te H
theorem u_X13_makeStates_0 {x2 : Int32} {x3 : Int32} {x4 : Int32} {x5 : Int32} {x6 : Int32} {x7 : Int32} {r1 : Nat} {z : ow_MS} {Q : ow_MS → Prop} (H : Tt (fun K k => qm_X13_makeStates_0 K (q_X13_makeStates K k) x2 x3 x4 x5 x6 x7 r1 z) Q) : Tt (fun K k => q_X13_makeStates K k 0 x2 x3 x4 x5 x6 x7 r1 z) Q := w_un (fun _ _ => rfl) H
theorem tp_makeStates {n c P : Nat} {A : rn_L} {sg : Nat → Bool} (hn : mw_net n) (hA : oNet z n A sg) (hK : chOK A sg c P) : Te (fun K => qe_X13_makeStates K n z) (fun z1 => stI z1 A sg c ∧ fr stH z z1) := by
  obtain ⟨hok, hc, hC, hL9, hbs, -⟩ := hK
  have hV := okF_len hok
  have hmn := net_mod hn
  have h2c : 2 ^ c ≤ 256 := two_mono (b := 8) hc
  let Q : ow_MS → Prop := fun z1 => stI z1 A sg c ∧ fr stH z z1
  have oA : ∀ {y : ow_MS}, fr stH z y → oNet y n A sg := fun hf => oNet_fr hf (fun g hg => by unfold stH at hg; omega) hA
  have c1 : ∀ (d s : Nat) (y : ow_MS), s + d = 2 ^ c → fr stH z y → (∀ t, t < s → y.2.1 82 t = nI (LcN A sg t)) → (∀ t, t < s → y.2.1 83 t = nI (bsN A sg t)) → (∀ t g, t < s → g < A.flatten.length → inR y 81 (32 * t + g) (LcN A sg t)) → Tt (fun K i => q_X13_makeStates K i 1 (nI (eC A)) (nI c) (nI (bsN A sg s)) (nI s) 0 0 n y) Q := by
    intro d
    induction d with
    | zero =>
      intro s y hs hf h82 h83 h81
      have hs : s = 2 ^ c := by omega
      refine u_X13_makeStates_1 ?_; unfold qm_X13_makeStates_1
      rw [shl1 (by omega)]
      refine w_leT (by omega) (by omega) (w_wrI ml83 rfl (by omega) (w_some ⟨⟨fun t ht => rd_ot (by omega) (h82 t (by omega)), fun t ht => ?_, fun t g ht hg => inR_ot (by omega) (h81 t g (by omega) hg)⟩, fr_I2 hf (by unfold stH; omega)⟩))
      by_cases hts : t = 2 ^ c
      · rw [hts, po_usI_at, hs]
      · exact rd_ne hts (h83 t (by omega))
    | succ d ih =>
      intro s y hs hf h82 h83 h81
      have hs9 := hL9 s (by omega)
      have hb1 : bsN A sg (s + 1) ≤ 13122 := Nat.le_trans (bs_mono (by omega)) hbs
      rw [bs_s] at hb1
      refine u_X13_makeStates_1 ?_; unfold qm_X13_makeStates_1
      rw [shl1 (by omega)]
      refine w_leF (by omega) (by omega) (w_cs0 (tp_loops (st := nI s) hn (oA hf)) (fun y1 ⟨u1, f1⟩ => ?_))
      have hf1 : fr stH z y1 := fr_tr hf (fr_mono (fun g hg => Or.inl hg) f1)
      have hp : dn (lpA A sg (nI s) A.flatten.length) := u1.1
      have hLs : LcN A sg s = rtsN (lpA A sg (nI s) A.flatten.length) A.flatten.length + eC A := rfl
      generalize hpe : lpA A sg (nI s) A.flatten.length = p at u1 hp hLs
      have k82 : ∀ t, t < s → y1.2.1 82 t = nI (LcN A sg t) := fun t ht => by rw [(f1 82 (by omega)).2.1]; exact h82 t ht
      have k83 : ∀ t, t < s → y1.2.1 83 t = nI (bsN A sg t) := fun t ht => by rw [(f1 83 (by omega)).2.1]; exact h83 t ht
      have k81 : ∀ t g, t < s → g < A.flatten.length → inR y1 81 (32 * t + g) (LcN A sg t) := fun t g ht hg => inR_fr f1 (by omega) (h81 t g ht hg)
      have u81 : ∀ {y : ow_MS} {i : Nat} {x : Int32}, ufR y p → ufR (usI y 81 i x) p := fun h => ⟨h.1, fun g hg => rd_ot (by omega) (h.2 g hg)⟩
      have c4 : ∀ (d2 g : Nat) (y : ow_MS), g + d2 = A.flatten.length → ufR y p → fr stH z y → (∀ t, t < s → y.2.1 82 t = nI (LcN A sg t)) → (∀ t, t < s → y.2.1 83 t = nI (bsN A sg t)) → (∀ t g, t < s → g < A.flatten.length → inR y 81 (32 * t + g) (LcN A sg t)) → (∀ h, h < A.flatten.length → (h < g ∨ p h = h) → inR y 81 (32 * s + h) (LcN A sg s)) → Tt (fun K i => q_X13_makeStates K i 4 (nI (eC A)) (nI c) (nI (bsN A sg s)) (nI s) (nI (rtsN p A.flatten.length)) (nI g) n y) Q := by
        intro d2
        induction d2 with
        | zero =>
          intro g y hg hu hf h82 h83 h81 hR
          refine u_X13_makeStates_4 ?_; unfold qm_X13_makeStates_4
          rw [nI_add, shl1 (by omega), nI_add, nI_1, ← hLs, ← bs_s]
          refine w_rdF (oA hf).1.V (w_leT (by omega) (by omega) (w_wrI ml82 rfl (by omega) (w_wrI ml83 rfl (by omega) (ih (s + 1) _ (by omega) (fr_I2 (fr_I2 hf (by unfold stH; omega)) (by unfold stH; omega)) (fun t ht => ?_) (fun t ht => ?_) (fun t h ht hh => inR_ot (by omega) (inR_ot (by omega) ?_))))))
          · refine rd_ot (by omega) ?_
            by_cases hts : t = s
            · rw [hts, po_usI_at]
            · exact rd_ne hts (h82 t (by omega))
          · by_cases hts : t = s
            · rw [hts, po_usI_at]
            · exact rd_ne hts (rd_ot (by omega) (h83 t (by omega)))
          · by_cases hts : t = s
            · rw [hts]
              exact hR h hh (Or.inl (by omega))
            · exact h81 t h (by omega) hh
        | succ d2 ih4 =>
          intro g y hg hu hf h82 h83 h81 hR
          have hgl : g < A.flatten.length := by omega
          obtain ⟨r1, r2⟩ := rt_in hp g
          obtain ⟨l, hl, el⟩ := hR (rt p g) (by omega) (Or.inr r1)
          refine u_X13_makeStates_4 ?_; unfold qm_X13_makeStates_4
          refine w_rdF (oA hf).1.V (w_leF (by omega) hgl (w_cs1 (tp_root hu (by omega)) (fun a y2 e => ?_)))
          cases e
          rw [i32x, i32x, nI_1]
          refine w_rdI ml81 rfl (by omega) el (w_wrB ml81 rfl (by omega) ?_)
          rw [(byt ⟨l, by omega⟩).2]
          refine ih4 (g + 1) _ (by omega) (u81 hu) (fr_I2 hf (by unfold stH; omega)) (fun t ht => rd_ot (by omega) (h82 t ht)) (fun t ht => rd_ot (by omega) (h83 t ht)) (fun t h ht hh => ?_) (fun h hh h9 => ?_)
          · obtain ⟨i, k1, k2⟩ := h81 t h ht hh
            exact ⟨i, k1, rd_ne (by omega) k2⟩
          · by_cases hhg : h = g
            · rw [hhg]; exact inR_set hl
            · exact inR_keep (hR h hh (by omega)) ⟨l, hl, rfl⟩
      have c2 : ∀ (d2 g : Nat) (y : ow_MS), g + d2 = A.flatten.length → ufR y p → fr stH z y → (∀ t, t < s → y.2.1 82 t = nI (LcN A sg t)) → (∀ t, t < s → y.2.1 83 t = nI (bsN A sg t)) → (∀ t g, t < s → g < A.flatten.length → inR y 81 (32 * t + g) (LcN A sg t)) → (∀ h, h < g → p h = h → inR y 81 (32 * s + h) (LcN A sg s)) → Tt (fun K i => q_X13_makeStates K i 2 (nI (eC A)) (nI c) (nI (bsN A sg s)) (nI s) (nI (rtsN p g)) (nI g) n y) Q := by
        intro d2
        induction d2 with
        | zero =>
          intro g y hg hu hf h82 h83 h81 hR
          have hg : g = A.flatten.length := by omega
          subst hg
          refine u_X13_makeStates_2 ?_; unfold qm_X13_makeStates_2
          exact w_rdF (oA hf).1.V (w_leT (by omega) (by omega) (c4 A.flatten.length 0 y (by omega) hu hf h82 h83 h81 (fun h hh h9 => hR h hh (h9.resolve_left (by omega)))))
        | succ d2 ih2 =>
          intro g y hg hu hf h82 h83 h81 hR
          have hgl : g < A.flatten.length := by omega
          have h1 := hp g
          have hrm := rtsN_mono (p := p) (a := g + 1) A.flatten.length hgl
          rw [rtsN_s] at hrm
          refine u_X13_makeStates_2 ?_; unfold qm_X13_makeStates_2
          rw [i32x]
          refine w_rdF (oA hf).1.V (w_leF (by omega) hgl (w_rdI ml47 rfl (by omega) (hu.2 g (by omega)) (w_eqN (by omega) (by omega) (fun h9 => w_wrB ml81 rfl (by omega) ?_) (fun h9 => ?_))))
          · rw [if_pos h9] at hrm
            rw [(byt ⟨rtsN p g, by omega⟩).1]
            refine u_X13_makeStates_3 ?_; unfold qm_X13_makeStates_3
            rw [nI_1, nI_1]
            have := ih2 (g + 1) (usI y 81 (32 * s + g) (nI (rtsN p g))) (by omega) (u81 hu) (fr_I2 hf (by unfold stH; omega)) (fun t ht => rd_ot (by omega) (h82 t ht)) (fun t ht => rd_ot (by omega) (h83 t ht)) (fun t h ht hh => by
              obtain ⟨i, k1, k2⟩ := h81 t h ht hh
              exact ⟨i, k1, rd_ne (by omega) k2⟩) (fun h hh h8 => by
              by_cases hhg : h = g
              · rw [hhg]; exact inR_set (by omega)
              · exact inR_keep (hR h (by omega) h8) ⟨_, by omega, rfl⟩)
            rw [rtsN_s, if_pos h9] at this
            exact this
          · refine u_X13_makeStates_3 ?_; unfold qm_X13_makeStates_3
            rw [nI_1]
            have := ih2 (g + 1) y (by omega) hu hf h82 h83 h81 (fun h hh h8 => by
              by_cases hhg : h = g
              · rw [hhg] at h8
                exact absurd h8 h9
              · exact hR h (by omega) h8)
            rw [rtsN_s, if_neg h9] at this
            exact this
      exact c2 A.flatten.length 0 y1 (by omega) u1 hf1 k82 k83 k81 (fun h hh => absurd hh (by omega))
  refine e_X13_makeStates ?_
  refine u_X13_makeStates_0 ?_; unfold qm_X13_makeStates_0
  refine w_cs1 (tp_circles2 hn (by omega) (by omega) hA.1.1) (fun a y e => ?_)
  cases e
  refine w_rdF hA.1.V (w_nzI (by decide) ?_)
  rw [hV, half_V (by omega)]
  exact c1 (2 ^ c) 0 z (by omega) fr_rf (fun t ht => absurd ht (by omega)) (fun t ht => absurd ht (by omega)) (fun t g ht => absurd ht (by omega))
/-- the column of a generator -/
def qvN (A : rn_L) (sg : Nat → Bool) (c mi s m : Nat) : Nat := 2 * pc m + pc s + c + 40 - (LcN A sg s + 3 * mi)
theorem e_X13_qOf {x1 : Int32} {x2 : Int32} {x3 : Int32} {z : ow_MS} {Q : (Int32 × ow_MS) → Prop} (H : Tt (fun K _ => qm_X13_qOf_0 K x1 x2 x3 z) Q) : Te (fun K => qe_X13_qOf K x1 x2 x3 z) Q := w_te0 H
theorem tp_qOf {c P mi s m : Nat} {A : rn_L} {sg : Nat → Bool} (hK : chOK A sg c P) (hI : stI z A sg c) (h88 : z.1 88 = nI mi) (hmi : mi ≤ c) (hs : s < 2 ^ c) (hm : m < 2 ^ LcN A sg s) : Te (fun K => qe_X13_qOf K (nI s) (nI m) (nI c - nI mi) z) (fun r => r = (nI (qvN A sg c mi s m), z)) ∧ qvN A sg c mi s m < 80 := by
  obtain ⟨hok, hc, hC, hL9, -⟩ := hK
  have h2c : 2 ^ c ≤ 256 := two_mono (b := 8) hc
  have hL := hL9 s hs
  have h2L : 2 ^ LcN A sg s ≤ 512 := two_mono (b := 9) hL
  have hpm := pc_le hm
  have hps := pc_le hs
  constructor
  · refine e_X13_qOf ?_; unfold qm_X13_qOf_0
    refine w_rdI ml82 rfl (by omega) (hI.1 s hs) (w_rdF h88 (w_some ?_))
    rw [bc_pc (by omega), bc_pc (by omega)]
    congr 1
    unfold qvN
    rw [nI_iI (pc m), nI_iI (pc s), nI_iI (LcN A sg s), nI_iI c, nI_iI mi]
    show ((((iI 2 * iI (pc m : Nat)) - iI (LcN A sg s : Nat)) + iI (pc s : Nat)) + (iI (c : Nat) - iI (mi : Nat))) - (iI 2 * iI (mi : Nat)) + iI 40 = _
    rw [iI_mul, iI_sub, iI_add, iI_sub, iI_add, iI_mul, iI_sub, iI_add]
    exact iI_nI (by omega)
  · unfold qvN
    omega
/-- masks below k in one column -/
def cmN (A : rn_L) (sg : Nat → Bool) (c mi s q : Nat) : Nat → Nat
  | 0 => 0
  | m + 1 => cmN A sg c mi s q m + if qvN A sg c mi s m = q then 1 else 0
def cpN (r : Nat) : Nat → Nat
  | 0 => 0
  | m + 1 => cpN r m + if pc m = r then 1 else 0
theorem cpN_split {r j : Nat} (hj : j < 32) : ∀ i, i ≤ 2 ^ j → cpN r (2 ^ j + i) = cpN r (2 ^ j) + if r = 0 then 0 else cpN (r - 1) i
  | 0, _ => by
    show _ = _ + if r = 0 then 0 else 0
    split <;> rfl
  | i + 1, hi => by
    have ih := cpN_split (r := r) hj i (by omega)
    show cpN r (2 ^ j + i) + (if pc (2 ^ j + i) = r then 1 else 0) = _
    rw [ih, pc_hi hj (by omega)]
    by_cases h0 : r = 0
    · rw [if_pos h0, if_pos h0, if_neg (by omega)]
    · rw [if_neg h0, if_neg h0]
      show _ = _ + (cpN (r - 1) i + if pc i = r - 1 then 1 else 0)
      by_cases h1 : pc i + 1 = r
      · rw [if_pos h1, if_pos (by omega)]; omega
      · rw [if_neg h1, if_neg (by omega)]; omega
/-- binomial numbers -/
def biN : Nat → Nat → Nat
  | 0, r => if r = 0 then 1 else 0
  | j + 1, r => biN j r + if r = 0 then 0 else biN j (r - 1)
theorem cpN_bi : ∀ (j r : Nat), j < 32 → cpN r (2 ^ j) = biN j r
  | 0, r, _ => by
    show 0 + (if pc 0 = r then 1 else 0) = if r = 0 then 1 else 0
    rw [show pc 0 = 0 from by decide]
    by_cases h : r = 0
    · rw [if_pos h, if_pos h.symm]
    · rw [if_neg h, if_neg (fun e => h e.symm)]
  | j + 1, r, hj => by
    rw [show 2 ^ (j + 1) = 2 ^ j + 2 ^ j by rw [Nat.pow_succ]; omega, cpN_split (by omega) _ (Nat.le_refl _), cpN_bi j r (by omega)]
    show _ = biN j r + if r = 0 then 0 else biN j (r - 1)
    by_cases h : r = 0
    · rw [if_pos h, if_pos h]
    · rw [if_neg h, if_neg h, cpN_bi j _ (by omega)]
theorem bi_mbt : ∀ j : Fin 10, ∀ r : Fin 10, biN j.val r.val ≤ mbt j.val := by decide
theorem biN_0 : ∀ (j r : Nat), j < r → biN j r = 0
  | 0, r, h => if_neg (by omega)
  | j + 1, r, h => by
    show biN j r + (if r = 0 then 0 else biN j (r - 1)) = 0
    rw [biN_0 j r (by omega), if_neg (by omega), biN_0 j (r - 1) (by omega)]
theorem cpN_mono {r a : Nat} : ∀ b, a ≤ b → cpN r a ≤ cpN r b
  | 0, h => by rw [show a = 0 by omega]; exact Nat.le_refl _
  | b + 1, h => by
    by_cases e : a = b + 1
    · rw [e]; exact Nat.le_refl _
    · have := cpN_mono (r := r) (a := a) b (by omega)
      show cpN r a ≤ cpN r b + _
      omega
theorem cm_le {A : rn_L} {sg : Nat → Bool} {c mi s q m : Nat} (hL : LcN A sg s ≤ 9) (hmi : mi ≤ c) (hc : c ≤ 8) (hm : m ≤ 2 ^ LcN A sg s) : cmN A sg c mi s q m ≤ mbt (LcN A sg s) := by
  have key : ∀ m, ∃ r, cmN A sg c mi s q m ≤ cpN r m ∧ ∀ m', cmN A sg c mi s q m' ≤ cpN r m' := by
    intro m
    have h1 : ∀ m', cmN A sg c mi s q m' ≤ cpN ((q + (LcN A sg s + 3 * mi) - (pc s + c + 40)) / 2) m' := by
      intro m'
      induction m' with
      | zero => exact Nat.le_refl _
      | succ m' ih =>
        refine Nat.add_le_add ih ?_
        by_cases h9 : qvN A sg c mi s m' = q
        · rw [if_pos h9, if_pos (by unfold qvN at h9; omega)]
          exact Nat.le_refl _
        · rw [if_neg h9]
          exact Nat.zero_le _
    exact ⟨_, h1 m, h1⟩
  obtain ⟨r, h1, -⟩ := key m
  have h2 := cpN_mono (r := r) (a := m) (2 ^ LcN A sg s) hm
  rw [cpN_bi _ _ (by omega)] at h2
  have h3 : biN (LcN A sg s) r ≤ mbt (LcN A sg s) := by
    rcases Nat.lt_or_ge r 10 with h9 | h9
    · exact bi_mbt ⟨LcN A sg s, by omega⟩ ⟨r, h9⟩
    · rw [biN_0 _ _ (by omega)]; exact Nat.zero_le _
  omega
/-- what placeAll leaves -/
def plA (y : ow_MS) (A : rn_L) (sg : Nat → Bool) (c : Nat) : Prop := (∀ i, i < 800 → inR y 85 i 1141) ∧ ∀ i, i < bsN A sg (2 ^ c) → inR y 84 i 1200
abbrev plH (g : Nat) : Prop := 84 ≤ g ∧ g ≤ 87
theorem u_X13_placeAll_2 {x1 : Int32} {x2 : Int32} {x3 : Int32} {z : ow_MS} {Q : ow_MS → Prop} (H : Tt (fun K k => qm_X13_placeAll_2 K (q_X13_placeAll K k) x1 x2 x3 z) Q) : Tt (fun K k => q_X13_placeAll K k 2 x1 x2 x3 z) Q := w_un (fun _ _ => rfl) H
theorem u_X13_placeAll_3 {x1 : Int32} {x2 : Int32} {x3 : Int32} {z : ow_MS} {Q : ow_MS → Prop} (H : Tt (fun K k => qm_X13_placeAll_3 K (q_X13_placeAll K k) x1 x2 x3 z) Q) : Tt (fun K k => q_X13_placeAll K k 3 x1 x2 x3 z) Q := w_un (fun _ _ => rfl) H
theorem u_X13_placeAll_1 {x1 : Int32} {x2 : Int32} {x3 : Int32} {z : ow_MS} {Q : ow_MS → Prop} (H : Tt (fun K k => qm_X13_placeAll_1 K (q_X13_placeAll K k) x1 x2 x3 z) Q) : Tt (fun K k => q_X13_placeAll K k 1 x1 x2 x3 z) Q := w_un (fun _ _ => rfl) H
theorem e_X13_placeAll {x1 : Int32} {z : ow_MS} {Q : ow_MS → Prop} (H : Tt (fun K k => q_X13_placeAll K k 0 x1 0 0 z) Q) : Te (fun K => qe_X13_placeAll K x1 z) Q := w_te H
theorem u_X13_placeAll_0 {x1 : Int32} {x2 : Int32} {x3 : Int32} {z : ow_MS} {Q : ow_MS → Prop} (H : Tt (fun K k => qm_X13_placeAll_0 K (q_X13_placeAll K k) x1 x2 x3 z) Q) : Tt (fun K k => q_X13_placeAll K k 0 x1 x2 x3 z) Q := w_un (fun _ _ => rfl) H
theorem tp_placeAll {c P mi : Nat} {A : rn_L} {sg : Nat → Bool} (hK : chOK A sg c P) (hI : stI z A sg c) (h88 : z.1 88 = nI mi) (hmi : mi ≤ c) : Te (fun K => qe_X13_placeAll K (nI c) z) (fun z1 => plA z1 A sg c ∧ fr plH z z1) := by
  have hK' := hK
  obtain ⟨hok, hc, hC, hL9, hbs, hblk⟩ := hK
  have h2c : 2 ^ c ≤ 256 := two_mono (b := 8) hc
  let Q : ow_MS → Prop := fun z1 => plA z1 A sg c ∧ fr plH z z1
  have iF : ∀ {y : ow_MS}, fr plH z y → stI y A sg c := fun hf => stI_fr hf (by unfold plH; omega) (by unfold plH; omega) (by unfold plH; omega) hI
  let w : Nat → Nat := fun s => mbt (LcN A sg s)
  have wle : ∀ h s, s ≤ 2 ^ c → smH w h 0 s ≤ 1140 := fun h s hs => Nat.le_trans (smH_mono _ hs) (hblk h)
  have c2 : ∀ (d s : Nat) (y : ow_MS), s + d = 2 ^ c → fr plH z y → (∀ h q, h < 10 → q < 80 → ∃ v, v ≤ smH w h 0 s ∧ y.2.1 85 (80 * h + q) = nI v) → (∀ i, i < bsN A sg s → inR y 84 i 1200) → Tt (fun K i => q_X13_placeAll K i 2 (nI c) (nI s) 0 y) Q := by
    intro d
    induction d with
    | zero =>
      intro s y hs hf h85 h84
      have hs : s = 2 ^ c := by omega
      refine u_X13_placeAll_2 ?_; unfold qm_X13_placeAll_2
      rw [shl1 (by omega)]
      refine w_leT (by omega) (by omega) (w_some ⟨⟨fun i hi => ?_, fun i hi => h84 i (by rw [hs]; exact hi)⟩, hf⟩)
      obtain ⟨v, hv, ev⟩ := h85 (i / 80) (i % 80) (by omega) (by omega)
      rw [show 80 * (i / 80) + i % 80 = i by omega] at ev
      have := wle (i / 80) s (by omega)
      exact ⟨v, by omega, ev⟩
    | succ d ih =>
      intro s y hs hf h85 h84
      have hsl : s < 2 ^ c := by omega
      have hL := hL9 s hsl
      have h2L : 2 ^ LcN A sg s ≤ 512 := two_mono (b := 9) hL
      have hps := pc_le hsl
      have hb1 : bsN A sg (s + 1) ≤ 13122 := Nat.le_trans (bs_mono (by omega)) hbs
      rw [bs_s] at hb1
      have hss : ∀ h, smH w h 0 (s + 1) = smH w h 0 s + if pc s = h then w s else 0 := fun h => by
        show smH w h 0 s + (if pc s = h then w (0 + s) else 0) = _
        rw [Nat.zero_add]
      have c3 : ∀ (d2 m : Nat) (y : ow_MS), m + d2 = 2 ^ LcN A sg s → fr plH z y → (∀ h q, h < 10 → q < 80 → ∃ v, v ≤ smH w h 0 s + (if pc s = h then cmN A sg c mi s q m else 0) ∧ y.2.1 85 (80 * h + q) = nI v) → (∀ i, i < bsN A sg s + m → inR y 84 i 1200) → Tt (fun K i => q_X13_placeAll K i 3 (nI c) (nI s) (nI m) y) Q := by
        intro d2
        induction d2 with
        | zero =>
          intro m y hm hf h85 h84
          refine u_X13_placeAll_3 ?_; unfold qm_X13_placeAll_3
          refine w_rdI ml82 rfl (by omega) ((iF hf).1 s hsl) ?_
          rw [shl1 (by omega), nI_1]
          refine w_leT (by omega) (by omega) (ih (s + 1) y (by omega) hf (fun h q hh hq => ?_) (fun i hi => h84 i (by rw [bs_s] at hi; omega)))
          obtain ⟨v, hv, ev⟩ := h85 h q hh hq
          refine ⟨v, ?_, ev⟩
          rw [hss]
          have := cm_le (A := A) (sg := sg) (c := c) (mi := mi) (s := s) (q := q) (m := m) hL hmi hc (by omega)
          have this : cmN A sg c mi s q m ≤ w s := this
          by_cases hps2 : pc s = h
          · rw [if_pos hps2] at hv ⊢; omega
          · rw [if_neg hps2] at hv ⊢; omega
        | succ d2 ih3 =>
          intro m y hm hf h85 h84
          have hml : m < 2 ^ LcN A sg s := by omega
          have hIy := iF hf
          have h88y : y.1 88 = nI mi := by rw [(hf 88 (by unfold plH; omega)).1]; exact h88
          obtain ⟨tq, hq80⟩ := tp_qOf hK' hIy h88y hmi hsl hml
          obtain ⟨v, hv, ev⟩ := h85 (pc s) (qvN A sg c mi s m) (by omega) hq80
          rw [if_pos rfl] at hv
          have hcm := cm_le (A := A) (sg := sg) (c := c) (mi := mi) (s := s) (q := qvN A sg c mi s m) (m := m + 1) hL hmi hc (by omega)
          have hcs : cmN A sg c mi s (qvN A sg c mi s m) (m + 1) = cmN A sg c mi s (qvN A sg c mi s m) m + 1 := by
            show _ + (if _ then 1 else 0) = _
            rw [if_pos rfl]
          have hw1 := wle (pc s) (s + 1) (by omega)
          rw [hss, if_pos rfl] at hw1
          have hw1 : smH w (pc s) 0 s + mbt (LcN A sg s) ≤ 1140 := hw1
          refine u_X13_placeAll_3 ?_; unfold qm_X13_placeAll_3
          refine w_rdI ml82 rfl (by omega) (hIy.1 s hsl) ?_
          rw [shl1 (by omega)]
          refine w_leF (by omega) (by omega) (w_rdF h88y (w_cs1 tq (fun a y1 e1 => ?_)))
          cases e1
          rw [bc_pc (by omega), show (80 : Int32) * nI (pc s) = nI (80 * pc s) from pk_mul 80 _, nI_add, nI_1]
          refine w_rdI ml83 rfl (by omega) (hIy.2.1 s (by omega)) (w_rdI ml85 rfl (by omega) ev (w_wrI (i := bsN A sg s + m) ml84 (nI_add _ _) (by omega) (w_rdI (x := nI v) ml85 rfl (by omega) (rd_ot (by omega) ev) (w_wrI ml85 rfl (by omega) (ih3 (m + 1) _ (by omega) (fr_I2 (fr_I2 hf (by unfold plH; omega)) (by unfold plH; omega)) (fun h q hh hq => ?_) (fun i hi => inR_ot (by omega) ?_))))))
          · by_cases hat : 80 * h + q = 80 * pc s + qvN A sg c mi s m
            · have e1 : h = pc s := by omega
              have e2 : q = qvN A sg c mi s m := by omega
              rw [e1, e2]
              refine ⟨v + 1, ?_, po_usI_at.trans (nI_1 v)⟩
              rw [if_pos rfl, hcs]
              omega
            · obtain ⟨v2, hv2, ev2⟩ := h85 h q hh hq
              refine ⟨v2, Nat.le_trans hv2 ?_, rd_ne hat (rd_ot (by omega) ev2)⟩
              by_cases hps2 : pc s = h
              · rw [if_pos hps2, if_pos hps2]
                exact Nat.add_le_add_left (Nat.le_add_right _ _) _
              · rw [if_neg hps2, if_neg hps2]
                exact Nat.le_refl _
          · by_cases hi2 : i = bsN A sg s + m
            · rw [hi2]; exact inR_set (by omega)
            · exact inR_keep (h84 i (by omega)) ⟨v, by omega, rfl⟩
      refine u_X13_placeAll_2 ?_; unfold qm_X13_placeAll_2
      rw [shl1 (by omega)]
      refine w_leF (by omega) (by omega) (c3 (2 ^ LcN A sg s) 0 y (by omega) hf (fun h q hh hq => ?_) (fun i hi => h84 i (by omega)))
      obtain ⟨v, hv, ev⟩ := h85 h q hh hq
      exact ⟨v, by omega, ev⟩
  have c1 : ∀ (d i : Nat) (y : ow_MS), i + d = 800 → fr plH z y → (∀ k, k < i → y.2.1 85 k = 0) → Tt (fun K t => q_X13_placeAll K t 1 (nI c) (nI i) 0 y) Q := by
    intro d
    induction d with
    | zero =>
      intro i y hi hf h0
      refine u_X13_placeAll_1 ?_; unfold qm_X13_placeAll_1
      exact w_leT (a := 800) (by omega) (by omega) (c2 (2 ^ c) 0 y (by omega) hf (fun h q hh hq => ⟨0, Nat.zero_le _, h0 _ (by omega)⟩) (fun k hk => absurd hk (by show ¬ k < 0; omega)))
    | succ d ih =>
      intro i y hi hf h0
      refine u_X13_placeAll_1 ?_; unfold qm_X13_placeAll_1
      rw [nI_1]
      refine w_leF (a := 800) (by omega) (by omega) (w_wrI ml85 rfl (by omega) (w_wrI ml86 rfl (by omega) (w_wrI ml87 rfl (by omega) (ih (i + 1) _ (by omega) (fr_I2 (fr_I2 (fr_I2 hf (by unfold plH; omega)) (by unfold plH; omega)) (by unfold plH; omega)) (fun k hk => rd_ot (by omega) (rd_ot (by omega) ?_))))))
      by_cases hki : k = i
      · rw [hki, po_usI_at]
      · exact rd_ne hki (h0 k (by omega))
  refine e_X13_placeAll ?_
  refine u_X13_placeAll_0 ?_; unfold qm_X13_placeAll_0
  exact c1 800 0 z (by omega) fr_rf (fun k hk => absurd hk (by omega))
end CHA
end
section
/-! 99zzzx.chainB -/
/-! chain: the steps -/
theorem or_512 : ∀ a : Fin 32, ∀ b : Fin 16, ∀ l : Fin 9, nI (16 * a.val + b.val) ||| ((1 : Int32) <<< (nI l.val &&& 31)) = nI ((16 * a.val + b.val) ||| 2 ^ l.val) := by decide +kernel
theorem or_bit {r l L : Nat} (hr : r < 2 ^ L) (hl : l < L) (hL : L ≤ 9) : ∃ r', r' < 2 ^ L ∧ nI r ||| ((1 : Int32) <<< (nI l &&& 31)) = nI r' := by
  have h2 : 2 ^ L ≤ 512 := two_mono (b := 9) hL
  have := or_512 ⟨r / 16, by omega⟩ ⟨r % 16, by omega⟩ ⟨l, by omega⟩
  rw [show 16 * (r / 16) + r % 16 = r by omega] at this
  exact ⟨_, Nat.or_lt_two_pow hr (Nat.pow_lt_pow_right (by decide) hl), this⟩
theorem st_256 : ∀ a : Fin 16, ∀ b : Fin 16, ∀ x : Fin 8, btN (16 * a.val + b.val) x.val = 0 → nI (16 * a.val + b.val) ||| ((1 : Int32) <<< (nI x.val &&& 31)) = nI (16 * a.val + b.val + 2 ^ x.val) := by decide +kernel
theorem st_or {s x : Nat} (hs : s < 256) (hx : x < 8) (hb : btN s x = 0) : nI s ||| ((1 : Int32) <<< (nI x &&& 31)) = nI (s + 2 ^ x) := by
  have := st_256 ⟨s / 16, by omega⟩ ⟨s % 16, by omega⟩ ⟨x, hx⟩
  rw [show 16 * (s / 16) + s % 16 = s by omega] at this
  exact this hb
theorem st_lt {s x c : Nat} (hs : s < 2 ^ c) (hx : x < c) (hb : btN s x = 0) : s + 2 ^ x < 2 ^ c := by
  unfold btN at hb
  obtain ⟨y, rfl⟩ : ∃ y, c = x + 1 + y := ⟨c - x - 1, by omega⟩
  have hp := Nat.two_pow_pos x
  have e1 : 2 ^ (x + 1 + y) = 2 ^ x * (2 * 2 ^ y) := by rw [Nat.pow_add, Nat.pow_succ, Nat.mul_assoc]
  rw [e1] at hs ⊢
  have h1 := Nat.div_add_mod s (2 ^ x)
  have h2 := Nat.mod_lt s hp
  have h3 : s / 2 ^ x < 2 * 2 ^ y := Nat.div_lt_of_lt_mul hs
  have h4 : s / 2 ^ x + 1 < 2 * 2 ^ y := by omega
  have h5 : 2 ^ x * (s / 2 ^ x + 1 + 1) ≤ 2 ^ x * (2 * 2 ^ y) := Nat.mul_le_mul_left _ h4
  rw [Nat.mul_add, Nat.mul_add, Nat.mul_one] at h5
  omega
/-- the work row: below size at most b -/
def wkB (y : ow_MS) (size b : Nat) : Prop := ∀ i, i < size → ∃ w, w ≤ b ∧ y.2.1 89 i = nI w
theorem wkB_add {y : ow_MS} {size b i k : Nat} {x v : Int32} (h : wkB y size b) (hv : y.2.1 89 i = v) (hx : x = nI k) : wkB (usI y 89 i (v + x)) size (b + k) := by
  intro j hj
  by_cases hji : j = i
  · obtain ⟨w, hw, e⟩ := h j hj
    rw [hji] at e
    exact ⟨w + k, by omega, by rw [hji, po_usI_at, ← hv, e, hx, nI_add]⟩
  · obtain ⟨w, hw, e⟩ := h j hj
    exact ⟨w, by omega, rd_ne hji e⟩
theorem wkB_mono {y : ow_MS} {size b b2 : Nat} (hb : b ≤ b2) (h : wkB y size b) : wkB y size b2 := fun i hi => by
  obtain ⟨w, hw, e⟩ := h i hi
  exact ⟨w, by omega, e⟩
section CHB
variable {z : ow_MS}
theorem u_X13_step_13 {x2 : Int32} {x3 : Int32} {x4 : Int32} {x5 : Int32} {x6 : Int32} {x7 : Int32} {x8 : Int32} {x9 : Int32} {x10 : Int32} {x11 : Int32} {x12 : Int32} {x13 : Int32} {x14 : Int32} {x15 : Int32} {x16 : Int32} {x17 : Int32} {r1 : Nat} {t0 : Int32} {z : ow_MS} {Q : ow_MS → Prop} (H : Tt (fun K k => qm_X13_step_13 K (q_X13_step K k) x2 x3 x4 x5 x6 x7 x8 x9 x10 x11 x12 x13 x14 x15 x16 x17 r1 t0 z) Q) : Tt (fun K k => q_X13_step K k 13 x2 x3 x4 x5 x6 x7 x8 x9 x10 x11 x12 x13 x14 x15 x16 x17 r1 t0 z) Q := w_un (fun _ _ => rfl) H
theorem u_X13_step_12 {x2 : Int32} {x3 : Int32} {x4 : Int32} {x5 : Int32} {x6 : Int32} {x7 : Int32} {x8 : Int32} {x9 : Int32} {x10 : Int32} {x11 : Int32} {x12 : Int32} {x13 : Int32} {x14 : Int32} {x15 : Int32} {x16 : Int32} {x17 : Int32} {r1 : Nat} {t0 : Int32} {z : ow_MS} {Q : ow_MS → Prop} (H : Tt (fun K k => qm_X13_step_12 K (q_X13_step K k) x2 x3 x4 x5 x6 x7 x8 x9 x10 x11 x12 x13 x14 x15 x16 x17 r1 t0 z) Q) : Tt (fun K k => q_X13_step K k 12 x2 x3 x4 x5 x6 x7 x8 x9 x10 x11 x12 x13 x14 x15 x16 x17 r1 t0 z) Q := w_un (fun _ _ => rfl) H
theorem u_X13_step_11 {x2 : Int32} {x3 : Int32} {x4 : Int32} {x5 : Int32} {x6 : Int32} {x7 : Int32} {x8 : Int32} {x9 : Int32} {x10 : Int32} {x11 : Int32} {x12 : Int32} {x13 : Int32} {x14 : Int32} {x15 : Int32} {x16 : Int32} {x17 : Int32} {r1 : Nat} {t0 : Int32} {z : ow_MS} {Q : ow_MS → Prop} (H : Tt (fun K k => qm_X13_step_11 K (q_X13_step K k) x2 x3 x4 x5 x6 x7 x8 x9 x10 x11 x12 x13 x14 x15 x16 x17 r1 t0 z) Q) : Tt (fun K k => q_X13_step K k 11 x2 x3 x4 x5 x6 x7 x8 x9 x10 x11 x12 x13 x14 x15 x16 x17 r1 t0 z) Q := w_un (fun _ _ => rfl) H
theorem u_X13_step_10 {x2 : Int32} {x3 : Int32} {x4 : Int32} {x5 : Int32} {x6 : Int32} {x7 : Int32} {x8 : Int32} {x9 : Int32} {x10 : Int32} {x11 : Int32} {x12 : Int32} {x13 : Int32} {x14 : Int32} {x15 : Int32} {x16 : Int32} {x17 : Int32} {r1 : Nat} {t0 : Int32} {z : ow_MS} {Q : ow_MS → Prop} (H : Tt (fun K k => qm_X13_step_10 K (q_X13_step K k) x2 x3 x4 x5 x6 x7 x8 x9 x10 x11 x12 x13 x14 x15 x16 x17 r1 t0 z) Q) : Tt (fun K k => q_X13_step K k 10 x2 x3 x4 x5 x6 x7 x8 x9 x10 x11 x12 x13 x14 x15 x16 x17 r1 t0 z) Q := w_un (fun _ _ => rfl) H
theorem u_X13_step_9 {x2 : Int32} {x3 : Int32} {x4 : Int32} {x5 : Int32} {x6 : Int32} {x7 : Int32} {x8 : Int32} {x9 : Int32} {x10 : Int32} {x11 : Int32} {x12 : Int32} {x13 : Int32} {x14 : Int32} {x15 : Int32} {x16 : Int32} {x17 : Int32} {r1 : Nat} {t0 : Int32} {z : ow_MS} {Q : ow_MS → Prop} (H : Tt (fun K k => qm_X13_step_9 K (q_X13_step K k) x2 x3 x4 x5 x6 x7 x8 x9 x10 x11 x12 x13 x14 x15 x16 x17 r1 t0 z) Q) : Tt (fun K k => q_X13_step K k 9 x2 x3 x4 x5 x6 x7 x8 x9 x10 x11 x12 x13 x14 x15 x16 x17 r1 t0 z) Q := w_un (fun _ _ => rfl) H
theorem u_X13_step_7 {x2 : Int32} {x3 : Int32} {x4 : Int32} {x5 : Int32} {x6 : Int32} {x7 : Int32} {x8 : Int32} {x9 : Int32} {x10 : Int32} {x11 : Int32} {x12 : Int32} {x13 : Int32} {x14 : Int32} {x15 : Int32} {x16 : Int32} {x17 : Int32} {r1 : Nat} {t0 : Int32} {z : ow_MS} {Q : ow_MS → Prop} (H : Tt (fun K k => qm_X13_step_7 K (q_X13_step K k) x2 x3 x4 x5 x6 x7 x8 x9 x10 x11 x12 x13 x14 x15 x16 x17 r1 t0 z) Q) : Tt (fun K k => q_X13_step K k 7 x2 x3 x4 x5 x6 x7 x8 x9 x10 x11 x12 x13 x14 x15 x16 x17 r1 t0 z) Q := w_un (fun _ _ => rfl) H
theorem u_X13_step_8 {x2 : Int32} {x3 : Int32} {x4 : Int32} {x5 : Int32} {x6 : Int32} {x7 : Int32} {x8 : Int32} {x9 : Int32} {x10 : Int32} {x11 : Int32} {x12 : Int32} {x13 : Int32} {x14 : Int32} {x15 : Int32} {x16 : Int32} {x17 : Int32} {r1 : Nat} {t0 : Int32} {z : ow_MS} {Q : ow_MS → Prop} (H : Tt (fun K k => qm_X13_step_8 K (q_X13_step K k) x2 x3 x4 x5 x6 x7 x8 x9 x10 x11 x12 x13 x14 x15 x16 x17 r1 t0 z) Q) : Tt (fun K k => q_X13_step K k 8 x2 x3 x4 x5 x6 x7 x8 x9 x10 x11 x12 x13 x14 x15 x16 x17 r1 t0 z) Q := w_un (fun _ _ => rfl) H
theorem u_X13_step_5 {x2 : Int32} {x3 : Int32} {x4 : Int32} {x5 : Int32} {x6 : Int32} {x7 : Int32} {x8 : Int32} {x9 : Int32} {x10 : Int32} {x11 : Int32} {x12 : Int32} {x13 : Int32} {x14 : Int32} {x15 : Int32} {x16 : Int32} {x17 : Int32} {r1 : Nat} {t0 : Int32} {z : ow_MS} {Q : ow_MS → Prop} (H : Tt (fun K k => qm_X13_step_5 K (q_X13_step K k) x2 x3 x4 x5 x6 x7 x8 x9 x10 x11 x12 x13 x14 x15 x16 x17 r1 t0 z) Q) : Tt (fun K k => q_X13_step K k 5 x2 x3 x4 x5 x6 x7 x8 x9 x10 x11 x12 x13 x14 x15 x16 x17 r1 t0 z) Q := w_un (fun _ _ => rfl) H
theorem u_X13_step_6 {x2 : Int32} {x3 : Int32} {x4 : Int32} {x5 : Int32} {x6 : Int32} {x7 : Int32} {x8 : Int32} {x9 : Int32} {x10 : Int32} {x11 : Int32} {x12 : Int32} {x13 : Int32} {x14 : Int32} {x15 : Int32} {x16 : Int32} {x17 : Int32} {r1 : Nat} {t0 : Int32} {z : ow_MS} {Q : ow_MS → Prop} (H : Tt (fun K k => qm_X13_step_6 K (q_X13_step K k) x2 x3 x4 x5 x6 x7 x8 x9 x10 x11 x12 x13 x14 x15 x16 x17 r1 t0 z) Q) : Tt (fun K k => q_X13_step K k 6 x2 x3 x4 x5 x6 x7 x8 x9 x10 x11 x12 x13 x14 x15 x16 x17 r1 t0 z) Q := w_un (fun _ _ => rfl) H
theorem u_X13_step_4 {x2 : Int32} {x3 : Int32} {x4 : Int32} {x5 : Int32} {x6 : Int32} {x7 : Int32} {x8 : Int32} {x9 : Int32} {x10 : Int32} {x11 : Int32} {x12 : Int32} {x13 : Int32} {x14 : Int32} {x15 : Int32} {x16 : Int32} {x17 : Int32} {r1 : Nat} {t0 : Int32} {z : ow_MS} {Q : ow_MS → Prop} (H : Tt (fun K k => qm_X13_step_4 K (q_X13_step K k) x2 x3 x4 x5 x6 x7 x8 x9 x10 x11 x12 x13 x14 x15 x16 x17 r1 t0 z) Q) : Tt (fun K k => q_X13_step K k 4 x2 x3 x4 x5 x6 x7 x8 x9 x10 x11 x12 x13 x14 x15 x16 x17 r1 t0 z) Q := w_un (fun _ _ => rfl) H
theorem u_X13_step_3 {x2 : Int32} {x3 : Int32} {x4 : Int32} {x5 : Int32} {x6 : Int32} {x7 : Int32} {x8 : Int32} {x9 : Int32} {x10 : Int32} {x11 : Int32} {x12 : Int32} {x13 : Int32} {x14 : Int32} {x15 : Int32} {x16 : Int32} {x17 : Int32} {r1 : Nat} {t0 : Int32} {z : ow_MS} {Q : ow_MS → Prop} (H : Tt (fun K k => qm_X13_step_3 K (q_X13_step K k) x2 x3 x4 x5 x6 x7 x8 x9 x10 x11 x12 x13 x14 x15 x16 x17 r1 t0 z) Q) : Tt (fun K k => q_X13_step K k 3 x2 x3 x4 x5 x6 x7 x8 x9 x10 x11 x12 x13 x14 x15 x16 x17 r1 t0 z) Q := w_un (fun _ _ => rfl) H
theorem u_X13_step_2 {x2 : Int32} {x3 : Int32} {x4 : Int32} {x5 : Int32} {x6 : Int32} {x7 : Int32} {x8 : Int32} {x9 : Int32} {x10 : Int32} {x11 : Int32} {x12 : Int32} {x13 : Int32} {x14 : Int32} {x15 : Int32} {x16 : Int32} {x17 : Int32} {r1 : Nat} {t0 : Int32} {z : ow_MS} {Q : ow_MS → Prop} (H : Tt (fun K k => qm_X13_step_2 K (q_X13_step K k) x2 x3 x4 x5 x6 x7 x8 x9 x10 x11 x12 x13 x14 x15 x16 x17 r1 t0 z) Q) : Tt (fun K k => q_X13_step K k 2 x2 x3 x4 x5 x6 x7 x8 x9 x10 x11 x12 x13 x14 x15 x16 x17 r1 t0 z) Q := w_un (fun _ _ => rfl) H
theorem u_X13_step_1 {x2 : Int32} {x3 : Int32} {x4 : Int32} {x5 : Int32} {x6 : Int32} {x7 : Int32} {x8 : Int32} {x9 : Int32} {x10 : Int32} {x11 : Int32} {x12 : Int32} {x13 : Int32} {x14 : Int32} {x15 : Int32} {x16 : Int32} {x17 : Int32} {r1 : Nat} {t0 : Int32} {z : ow_MS} {Q : ow_MS → Prop} (H : Tt (fun K k => qm_X13_step_1 K (q_X13_step K k) x2 x3 x4 x5 x6 x7 x8 x9 x10 x11 x12 x13 x14 x15 x16 x17 r1 t0 z) Q) : Tt (fun K k => q_X13_step K k 1 x2 x3 x4 x5 x6 x7 x8 x9 x10 x11 x12 x13 x14 x15 x16 x17 r1 t0 z) Q := w_un (fun _ _ => rfl) H
theorem e_X13_step {r1 : Nat} {x2 : Int32} {x3 : Int32} {x4 : Int32} {x5 : Int32} {z : ow_MS} {Q : ow_MS → Prop} (H : Tt (fun K k => q_X13_step K k 0 x2 x3 x4 x5 0 0 0 0 0 0 0 0 0 0 0 0 r1 0 z) Q) : Te (fun K => qe_X13_step K r1 x2 x3 x4 x5 z) Q := w_te H
theorem u_X13_step_0 {x2 : Int32} {x3 : Int32} {x4 : Int32} {x5 : Int32} {x6 : Int32} {x7 : Int32} {x8 : Int32} {x9 : Int32} {x10 : Int32} {x11 : Int32} {x12 : Int32} {x13 : Int32} {x14 : Int32} {x15 : Int32} {x16 : Int32} {x17 : Int32} {r1 : Nat} {t0 : Int32} {z : ow_MS} {Q : ow_MS → Prop} (H : Tt (fun K k => qm_X13_step_0 K (q_X13_step K k) x2 x3 x4 x5 x6 x7 x8 x9 x10 x11 x12 x13 x14 x15 x16 x17 r1 t0 z) Q) : Tt (fun K k => q_X13_step K k 0 x2 x3 x4 x5 x6 x7 x8 x9 x10 x11 x12 x13 x14 x15 x16 x17 r1 t0 z) Q := w_un (fun _ _ => rfl) H
theorem tp_step {n c P s m x pr size b : Nat} {A : rn_L} {sg : Nat → Bool} (hn : mw_net n) (hK : chOK A sg c P) (hA : oNet z n A sg) (hI : stI z A sg c) (hpl : plA z A sg c) (hs : s < 2 ^ c) (hx : x < c) (hb : btN s x = 0) (hpr1 : 2 ≤ pr) (hpr : pr ≤ 997) (hw : wkB z size b) : Te (fun K => qe_X13_step K n (nI s) (nI m) (nI x) (nI pr) z) (fun z1 => wkB z1 size (b + 2 * pr) ∧ fr (fun g => g = 89) z z1) := by
  obtain ⟨hok, hc, hC, hL9, hbs, -⟩ := hK
  have hV := okF_len hok
  have hd := wkF_ok hA.wk
  have hmn := net_mod hn
  have h2c : 2 ^ c ≤ 256 := two_mono (b := 8) hc
  have ht := st_lt hs hx hb
  have hLs := hL9 s hs
  have hLt := hL9 (s + 2 ^ x) ht
  have hb1 : bsN A sg (s + 2 ^ x + 1) ≤ bsN A sg (2 ^ c) := bs_mono ht
  rw [bs_s] at hb1
  let Q : ow_MS → Prop := fun z1 => wkB z1 size (b + 2 * pr) ∧ fr (fun g => g = 89) z z1
  have lo : ∀ {t g : Nat}, t < 2 ^ c → g < A.flatten.length → ∃ l, l < LcN A sg t ∧ z.2.1 81 (32 * t + g) = nI l := fun h1 h2 => hI.2.2 _ _ h1 h2
  obtain ⟨v0, v01, v02⟩ := ok_has hok hx
  -- the place of what comes
  have plc : ∀ {r : Nat}, r < 2 ^ LcN A sg (s + 2 ^ x) → ∃ k, k < 1200 ∧ z.2.1 84 (bsN A sg (s + 2 ^ x) + r) = nI k := fun hr => hpl.2 _ (by omega)
  have c1 : ∀ (d v : Nat), v + d = v0 → (∀ u, u < v → crs A u ≠ x) → Tt (fun K i => q_X13_step K i 1 (nI s) (nI m) (nI x) (nI pr) (nI v) 0 0 0 0 0 0 0 0 0 0 0 n 0 z) Q := by
    have found : ∀ v, v < A.flatten.length → crs A v = x → Tt (fun K i => q_X13_step K i 1 (nI s) (nI m) (nI x) (nI pr) (nI v) 0 0 0 0 0 0 0 0 0 0 0 n 0 z) Q := by
      intro v hv hcv
      have hml := mtf_lt hd hv
      have hpv := rn_pv_lt hv
      have hpm := rn_pv_lt hml
      obtain ⟨la, la1, la2⟩ := lo hs hv
      obtain ⟨lb, lb1, lb2⟩ := lo hs hpv
      obtain ⟨lc, lc1, lc2⟩ := lo hs hml
      obtain ⟨ld, ld1, ld2⟩ := lo hs hpm
      obtain ⟨ka, ka1, ka2⟩ := lo ht hv
      obtain ⟨kb, kb1, kb2⟩ := lo ht hpv
      obtain ⟨kc, kc1, kc2⟩ := lo ht hml
      obtain ⟨kd, kd1, kd2⟩ := lo ht hpm
      have c2 : ∀ (one : Nat), one ≤ pr → Tt (fun K i => q_X13_step K i 2 (nI s) (nI m) (nI x) (nI pr) (nI v) (nI (mtf A v)) (nI (s + 2 ^ x)) 0 0 0 0 0 0 0 0 0 n (nI one) z) Q := by
        intro one hone
        -- from label 9 on
        have put : ∀ {r : Nat} (y : ow_MS) (bb : Nat), r < 2 ^ LcN A sg (s + 2 ^ x) → fr (fun g => g = 89) z y → wkB y size bb → ∃ k, k < 1200 ∧ y.2.1 83 (s + 2 ^ x) = nI (bsN A sg (s + 2 ^ x)) ∧ y.2.1 84 (bsN A sg (s + 2 ^ x) + r) = nI k ∧ bsN A sg (s + 2 ^ x) + r < 13200 := by
          intro r y bb hr hf hwy
          obtain ⟨k, hk, ek⟩ := plc hr
          exact ⟨k, hk, by rw [(hf 83 (by omega)).2.1]; exact hI.2.1 _ (by omega), by rw [(hf 84 (by omega)).2.1]; exact ek, by omega⟩
        have add1 : ∀ {r : Nat} (y : ow_MS) (bb : Nat) {E : ow_MS → Nat → Nat → Option ow_MS} (j : Int32), r < 2 ^ LcN A sg (s + 2 ^ x) → fr (fun g => g = 89) z y → wkB y size bb → j = nI r → (∀ y1, fr (fun g => g = 89) z y1 → wkB y1 size (bb + pr) → Tt (E y1) Q) → Tt (fun K i => rdI mX y 83 (nI (s + 2 ^ x)) fun v1 => rdI mX y 84 (v1 + j) fun v2 => rdI mX y 89 v2 fun v3 => wrI mX y 89 v2 (v3 + nI one) fun y1 => E y1 K i) Q := by
          intro r y bb E j hr hf hwy hj H
          obtain ⟨k, hk, e83, e84, hlt⟩ := put y bb hr hf hwy
          refine w_rdI ml83 rfl (by omega) e83 (w_rdI (i := bsN A sg (s + 2 ^ x) + r) ml84 (by rw [hj, nI_add]) hlt e84 (w_rdI ml89 rfl (by omega) rfl (w_wrI ml89 rfl (by omega) (H _ (fr_I2 hf rfl) (wkB_mono (by omega) (wkB_add hwy rfl rfl))))))
        have c9 : ∀ (r lx ly : Nat) (x15 x16 t0 : Int32), r < 2 ^ LcN A sg (s + 2 ^ x) → ly < LcN A sg (s + 2 ^ x) → lx < LcN A sg (s + 2 ^ x) → ∀ (x10 x11 : Int32), Tt (fun K i => q_X13_step K i 9 (nI s) (nI m) (nI x) (nI pr) (nI v) (nI (mtf A v)) (nI (s + 2 ^ x)) (nI one) x10 x11 (nI lx) (nI ly) (nI r) x15 x16 0 n t0 z) Q := by
          intro r lx ly x15 x16 t0 hr hly hlx x10 x11
          obtain ⟨r1, hr1, er1⟩ := or_bit hr hlx hLt
          obtain ⟨r2, hr2, er2⟩ := or_bit hr hly hLt
          have c13 : ∀ (x16 x17 : Int32) (y : ow_MS), fr (fun g => g = 89) z y → wkB y size (b + pr) → Tt (fun K i => q_X13_step K i 13 (nI s) (nI m) (nI x) (nI pr) (nI v) (nI (mtf A v)) (nI (s + 2 ^ x)) (nI one) x10 x11 (nI lx) (nI ly) (nI r) x15 x16 x17 n 0 y) Q := by
            intro x16 x17 y hf hwy
            refine u_X13_step_13 ?_; unfold qm_X13_step_13
            exact w_some ⟨wkB_mono (by omega) hwy, hf⟩
          have c12 : ∀ (x16 x17 : Int32), Tt (fun K i => q_X13_step K i 12 (nI s) (nI m) (nI x) (nI pr) (nI v) (nI (mtf A v)) (nI (s + 2 ^ x)) (nI one) x10 x11 (nI lx) (nI ly) (nI r) x15 x16 x17 n 0 z) Q := by
            intro x16 x17
            refine u_X13_step_12 ?_; unfold qm_X13_step_12
            exact add1 z b _ hr fr_rf hw rfl (fun y1 f1 w1 => c13 _ _ y1 f1 w1)
          have c11 : ∀ (x16 x17 : Int32), Tt (fun K i => q_X13_step K i 11 (nI s) (nI m) (nI x) (nI pr) (nI v) (nI (mtf A v)) (nI (s + 2 ^ x)) (nI one) x10 x11 (nI lx) (nI ly) (nI r) x15 x16 x17 n 0 z) Q := by
            intro x16 x17
            refine u_X13_step_11 ?_; unfold qm_X13_step_11
            exact w_if (fun _ => w_if (fun _ => c13 _ _ z fr_rf (wkB_mono (by omega) hw)) (fun _ => c12 _ _)) (fun _ => c12 _ _)
          have c10 : ∀ (x16 t0 : Int32), Tt (fun K i => q_X13_step K i 10 (nI s) (nI m) (nI x) (nI pr) (nI v) (nI (mtf A v)) (nI (s + 2 ^ x)) (nI one) x10 x11 (nI lx) (nI ly) (nI r) x15 x16 0 n t0 z) Q := by
            intro x16 t0
            refine u_X13_step_10 ?_; unfold qm_X13_step_10
            exact w_if (fun _ => c11 _ _) (fun _ => w_if (fun _ => c11 _ _) (fun _ => add1 z b _ hr1 fr_rf hw er1 (fun y1 f1 w1 => c13 _ _ y1 f1 w1)))
          refine u_X13_step_9 ?_; unfold qm_X13_step_9
          exact w_if (fun _ => w_if (fun _ => add1 z b _ hr fr_rf hw rfl (fun y1 f1 w1 => w_some ⟨wkB_mono (by omega) w1, f1⟩)) (fun _ => add1 z b _ hr1 fr_rf hw er1 (fun y1 f1 w1 => add1 y1 (b + pr) _ hr2 f1 w1 er2 (fun y2 f2 w2 => w_some ⟨wkB_mono (by omega) w2, f2⟩)))) (fun _ => w_if (fun _ => c10 _ _) (fun _ => c10 _ _))
        have c7 : ∀ (d k r lx ly : Nat) (x10 x11 : Int32), k + d = eC A + 1 → 1 ≤ k → r < 2 ^ LcN A sg (s + 2 ^ x) → ly < LcN A sg (s + 2 ^ x) → lx < LcN A sg (s + 2 ^ x) → Tt (fun K i => q_X13_step K i 7 (nI s) (nI m) (nI x) (nI pr) (nI v) (nI (mtf A v)) (nI (s + 2 ^ x)) (nI one) x10 x11 (nI lx) (nI ly) (nI r) (nI (eC A)) (nI k) 0 n 0 z) Q := by
          have heC : eC A ≤ 6 := by have := neC_eC A; omega
          intro d
          induction d with
          | zero =>
            intro k r lx ly x10 x11 hk hk1 hr hly hlx
            refine u_X13_step_7 ?_; unfold qm_X13_step_7
            exact w_ltT (by omega) (by omega) (w_if (fun _ => c9 _ _ _ _ _ _ hr hly hlx _ _) (fun _ => c9 _ _ _ _ _ _ hr hly hlx _ _))
          | succ d ih7 =>
            intro k r lx ly x10 x11 hk hk1 hr hly hlx
            have hle : k ≤ LcN A sg (s + 2 ^ x) := by unfold LcN; omega
            obtain ⟨r1, hr1, er1⟩ := or_bit (l := LcN A sg (s + 2 ^ x) - k) hr (by omega) hLt
            have c8 : ∀ r, r < 2 ^ LcN A sg (s + 2 ^ x) → Tt (fun K i => q_X13_step K i 8 (nI s) (nI m) (nI x) (nI pr) (nI v) (nI (mtf A v)) (nI (s + 2 ^ x)) (nI one) x10 x11 (nI lx) (nI ly) (nI r) (nI (eC A)) (nI k) 0 n 0 z) Q := by
              intro r hr
              refine u_X13_step_8 ?_; unfold qm_X13_step_8
              rw [show nI k + 1 = nI (k + 1) from nI_1 _]
              exact ih7 (k + 1) r lx ly _ _ (by omega) (by omega) hr hly hlx
            refine u_X13_step_7 ?_; unfold qm_X13_step_7
            refine w_ltF (by omega) (by omega) (w_rdI ml82 rfl (by omega) (hI.1 s hs) (w_if (fun _ => w_rdI ml82 rfl (by omega) (hI.1 _ ht) ?_) (fun _ => c8 r hr)))
            rw [pk_sub hle, er1]
            exact c8 r1 hr1
        have c5 : ∀ (d g r lx ly : Nat) (x10 x11 : Int32), g + d = A.flatten.length → r < 2 ^ LcN A sg (s + 2 ^ x) → ly < LcN A sg (s + 2 ^ x) → lx < LcN A sg (s + 2 ^ x) → Tt (fun K i => q_X13_step K i 5 (nI s) (nI m) (nI x) (nI pr) (nI v) (nI (mtf A v)) (nI (s + 2 ^ x)) (nI one) x10 x11 (nI lx) (nI ly) (nI r) (nI g) 0 0 n 0 z) Q := by
          intro d
          induction d with
          | zero =>
            intro g r lx ly x10 x11 hg hr hly hlx
            refine u_X13_step_5 ?_; unfold qm_X13_step_5
            refine w_rdF hA.1.V (w_leT (by omega) (by omega) (w_cs1 (tp_circles2 hn (by omega) (by omega) hA.1.1) (fun a y e => ?_)))
            cases e
            exact c7 (eC A) 1 r lx ly _ _ (by omega) (Nat.le_refl _) hr hly hlx
          | succ d ih5 =>
            intro g r lx ly x10 x11 hg hr hly hlx
            have hgl : g < A.flatten.length := by omega
            obtain ⟨l, l1, l2⟩ := lo hs hgl
            obtain ⟨l', l'1, l'2⟩ := lo ht hgl
            obtain ⟨r1, hr1, er1⟩ := or_bit hr l'1 hLt
            have c6 : ∀ r (x16 : Int32), r < 2 ^ LcN A sg (s + 2 ^ x) → Tt (fun K i => q_X13_step K i 6 (nI s) (nI m) (nI x) (nI pr) (nI v) (nI (mtf A v)) (nI (s + 2 ^ x)) (nI one) x10 x11 (nI lx) (nI ly) (nI r) (nI g) x16 0 n 0 z) Q := by
              intro r x16 hr
              refine u_X13_step_6 ?_; unfold qm_X13_step_6
              rw [show nI g + 1 = nI (g + 1) from nI_1 _]
              exact ih5 (g + 1) r lx ly _ _ (by omega) hr hly hlx
            refine u_X13_step_5 ?_; unfold qm_X13_step_5
            rw [i32x, i32x]
            refine w_rdF hA.1.V (w_leF (by omega) hgl (w_rdI ml81 rfl (by omega) l2 (w_if (fun _ => c6 _ _ hr) (fun _ => w_if (fun _ => c6 _ _ hr) (fun _ => w_if (fun _ => w_rdI ml81 rfl (by omega) l'2 ?_) (fun _ => c6 _ _ hr))))))
            rw [er1]
            exact c6 _ _ hr1
        have c4 : ∀ (ly : Nat) (x10 x11 : Int32), ly < LcN A sg (s + 2 ^ x) → Tt (fun K i => q_X13_step K i 4 (nI s) (nI m) (nI x) (nI pr) (nI v) (nI (mtf A v)) (nI (s + 2 ^ x)) (nI one) x10 x11 (nI ka) 0 0 0 0 0 n (nI ly) z) Q := by
          intro ly x10 x11 hly
          refine u_X13_step_4 ?_; unfold qm_X13_step_4
          exact c5 A.flatten.length 0 0 ka ly _ _ (by omega) (Nat.two_pow_pos _) hly ka1
        have c3 : ∀ (x10 x11 : Int32), Tt (fun K i => q_X13_step K i 3 (nI s) (nI m) (nI x) (nI pr) (nI v) (nI (mtf A v)) (nI (s + 2 ^ x)) (nI one) x10 0 0 0 0 0 0 0 n x11 z) Q := by
          intro x10 x11
          refine u_X13_step_3 ?_; unfold qm_X13_step_3
          rw [i32x, i32x]
          exact w_rdI ml81 rfl (by omega) ka2 (w_rdI (pl10 hn) rfl (by omega) (lk_p hA.1 hv) (w_rdI ml81 i32x (by omega) kb2 (w_if (fun _ => w_rdI ml81 rfl (by omega) kc2 (w_if (fun _ => w_rdI (pl10 hn) rfl (by omega) (lk_p hA.1 hml) (w_rdI ml81 i32x (by omega) kd2 (c4 _ _ _ kd1))) (fun _ => w_rdI ml81 rfl (by omega) kc2 (c4 _ _ _ kc1)))) (fun _ => w_rdI (pl10 hn) rfl (by omega) (lk_p hA.1 hv) (w_rdI ml81 i32x (by omega) kb2 (c4 _ _ _ kb1))))))
        refine u_X13_step_2 ?_; unfold qm_X13_step_2
        rw [i32x, i32x]
        exact w_rdI ml81 rfl (by omega) la2 (w_rdI (pl10 hn) rfl (by omega) (lk_p hA.1 hv) (w_rdI ml81 i32x (by omega) lb2 (w_if (fun _ => w_rdI ml81 rfl (by omega) lc2 (w_if (fun _ => w_rdI (pl10 hn) rfl (by omega) (lk_p hA.1 hml) (w_rdI ml81 i32x (by omega) ld2 (c3 _ _))) (fun _ => w_rdI ml81 rfl (by omega) lc2 (c3 _ _)))) (fun _ => w_rdI (pl10 hn) rfl (by omega) (lk_p hA.1 hv) (w_rdI ml81 i32x (by omega) lb2 (c3 _ _))))))
      refine u_X13_step_1 ?_; unfold qm_X13_step_1
      refine w_rdI (pl4 hn) rfl (by omega) (lk_cu hA.1 hv).1 (w_ifT (by rw [hcv]) (w_rdI (pl7 hn) rfl (by omega) (lk_m hd hA.1 hv) ?_))
      rw [st_or (by omega) (by omega) hb]
      refine w_if (fun _ => c2 1 (by omega)) (fun _ => ?_)
      rw [show nI pr - 1 = nI (pr - 1) from pk_sub (b := 1) (by omega)]
      exact c2 (pr - 1) (by omega)
    intro d
    induction d with
    | zero =>
      intro v hv _
      exact found v (by omega) (by rw [show v = v0 by omega]; exact v02)
    | succ d ih =>
      intro v hv hall
      by_cases hcv : crs A v = x
      · exact found v (by omega) hcv
      · have hcx := (hA.cx (i := v) (by omega)).1
        refine u_X13_step_1 ?_; unfold qm_X13_step_1
        refine w_rdI (pl4 hn) rfl (by omega) (lk_cu hA.1 (by omega)).1 (w_ifF (fun e9 => hcv ((nI_eq (by omega) (by omega)).mp e9)) ?_)
        rw [show nI v + 1 = nI (v + 1) from nI_1 _]
        refine ih (v + 1) (by omega) (fun u hu => ?_)
        by_cases huv : u = v
        · rw [huv]; exact hcv
        · exact hall u (by omega)
  refine e_X13_step ?_
  refine u_X13_step_0 ?_; unfold qm_X13_step_0
  exact c1 v0 0 (by omega) (fun u hu => absurd hu (by omega))
end CHB
end
