/-! cover and colours have an answer -/
theorem cmp_0 {x y : Int64} : lg_cmp x y = 0 ↔ x = y := by
  unfold lg_cmp
  by_cases h : x > y
  · rw [if_pos h]
    refine ⟨fun e => absurd e (by decide), fun e => ?_⟩
    rw [e] at h
    exact absurd h (Int64.lt_irrefl)
  · rw [if_neg h]
    by_cases e : x = y
    · rw [if_pos e]; exact ⟨fun _ => e, fun _ => rfl⟩
    · rw [if_neg e]; exact ⟨fun h9 => absurd h9 (by decide), fun h9 => absurd h9 e⟩
theorem rem_64 {a b : Int64} (hb : b ≠ 0) : (a - a / b * b).toInt = a.toInt.tmod b.toInt := by
  have hb2 : b.toInt ≠ 0 := fun e => hb (Int64.toInt_inj.mp e)
  rw [Int64.toInt_sub, Int64.toInt_mul, Int64.toInt_div]
  simp only [Int.sub_bmod_bmod, Int.bmod_mul_bmod]
  rw [show a.toInt - a.toInt.tdiv b.toInt * b.toInt = a.toInt.tmod b.toInt from by rw [Int.tmod_def, Int.mul_comm]]
  have h1 := Int64.le_toInt a
  have h2 := Int64.toInt_lt a
  have h3 := Int.natAbs_tmod a.toInt b.toInt
  have h4 : a.toInt.natAbs % b.toInt.natAbs ≤ a.toInt.natAbs := Nat.mod_le _ _
  have h5 : a.toInt.natAbs % b.toInt.natAbs < b.toInt.natAbs := Nat.mod_lt _ (by omega)
  have h6 := Int64.le_toInt b
  have h7 := Int64.toInt_lt b
  exact Int.bmod_eq_of_le (by omega) (by omega)
theorem usJ_at {z : ow_MS} {h i : Nat} {x : Int64} : (usJ z h i x).2.2 h i = x := by
  simp [usJ, vp_updL]
theorem usJ_ne {z : ow_MS} {h i j : Nat} {x : Int64} (hj : j ≠ i) : (usJ z h i x).2.2 h j = z.2.2 h j := by
  simp [usJ, vp_updL, hj]
section COV
variable {X : (Nat → Nat → Int32) → Prop} {z : ow_MS}
theorem u_X13_gcd_1 {w0 : Int64} {w2 : Int64} {w4 : Int64} {w6 : Int64} {z : ow_MS} {Q : (Int64 × ow_MS) → Prop} (H : Tt (fun K k => qm_X13_gcd_1 K (q_X13_gcd K k) w0 w2 w4 w6 z) Q) : Tt (fun K k => q_X13_gcd K k 1 w0 w2 w4 w6 z) Q := w_un (fun _ _ => rfl) H
theorem e_X13_gcd {w0 : Int64} {w2 : Int64} {z : ow_MS} {Q : (Int64 × ow_MS) → Prop} (H : Tt (fun K k => q_X13_gcd K k 0 w0 w2 0 0 z) Q) : Te (fun K => qe_X13_gcd K w0 w2 z) Q := w_te H
theorem u_X13_gcd_0 {w0 : Int64} {w2 : Int64} {w4 : Int64} {w6 : Int64} {z : ow_MS} {Q : (Int64 × ow_MS) → Prop} (H : Tt (fun K k => qm_X13_gcd_0 K (q_X13_gcd K k) w0 w2 w4 w6 z) Q) : Tt (fun K k => q_X13_gcd K k 0 w0 w2 w4 w6 z) Q := w_un (fun _ _ => rfl) H
theorem tp_gcd {a b : Int64} : Te (fun K => qe_X13_gcd K a b z) (fun r => r.2 = z) := by
  have key : ∀ (m : Nat) (x y : Int64), y.toInt.natAbs ≤ m → Tt (fun K i => q_X13_gcd K i 1 a b x y z) (fun r => r.2 = z) := by
    intro m
    induction m with
    | zero =>
      intro x y hy
      have hy : y = 0 := Int64.toInt_inj.mp (by show y.toInt = 0; omega)
      refine u_X13_gcd_1 ?_; unfold qm_X13_gcd_1
      exact w_ifT (cmp_0.mpr hy) (w_some rfl)
    | succ m ih =>
      intro x y hy
      refine u_X13_gcd_1 ?_; unfold qm_X13_gcd_1
      refine w_if (fun _ => w_some rfl) (fun h9 => ?_)
      have hy0 : y ≠ 0 := fun e => h9 (cmp_0.mpr e)
      refine w_nzJ hy0 (ih _ _ ?_)
      have hb2 : y.toInt ≠ 0 := fun e => hy0 (Int64.toInt_inj.mp e)
      have h3 := Int.natAbs_tmod x.toInt y.toInt
      have h5 : x.toInt.natAbs % y.toInt.natAbs < y.toInt.natAbs := Nat.mod_lt _ (by omega)
      rw [rem_64 hy0]
      omega
  refine e_X13_gcd ?_
  refine u_X13_gcd_0 ?_; unfold qm_X13_gcd_0
  exact key _ a b (Nat.le_refl _)
/-- the place in the grid -/
theorem gr_ix {x y : Nat} : (24 : Int32) * nI x + nI y = nI (24 * x + y) := by
  rw [show (24 : Int32) * nI x = nI (24 * x) from pk_mul 24 x, nI_add]
theorem sq_ix {x y : Nat} : (13 : Int32) * nI x + nI y = nI (13 * x + y) := by
  rw [show (13 : Int32) * nI x = nI (13 * x) from pk_mul 13 x, nI_add]
theorem u_X13_unit_7 {x1 : Int32} {x2 : Int32} {x3 : Int32} {x4 : Int32} {x5 : Int32} {x6 : Int32} {z : ow_MS} {Q : (Int32 × ow_MS) → Prop} (H : Tt (fun K k => qm_X13_unit_7 K (q_X13_unit K k) x1 x2 x3 x4 x5 x6 z) Q) : Tt (fun K k => q_X13_unit K k 7 x1 x2 x3 x4 x5 x6 z) Q := w_un (fun _ _ => rfl) H
theorem u_X13_unit_6 {x1 : Int32} {x2 : Int32} {x3 : Int32} {x4 : Int32} {x5 : Int32} {x6 : Int32} {z : ow_MS} {Q : (Int32 × ow_MS) → Prop} (H : Tt (fun K k => qm_X13_unit_6 K (q_X13_unit K k) x1 x2 x3 x4 x5 x6 z) Q) : Tt (fun K k => q_X13_unit K k 6 x1 x2 x3 x4 x5 x6 z) Q := w_un (fun _ _ => rfl) H
theorem u_X13_unit_5 {x1 : Int32} {x2 : Int32} {x3 : Int32} {x4 : Int32} {x5 : Int32} {x6 : Int32} {z : ow_MS} {Q : (Int32 × ow_MS) → Prop} (H : Tt (fun K k => qm_X13_unit_5 K (q_X13_unit K k) x1 x2 x3 x4 x5 x6 z) Q) : Tt (fun K k => q_X13_unit K k 5 x1 x2 x3 x4 x5 x6 z) Q := w_un (fun _ _ => rfl) H
theorem u_X13_unit_1 {x1 : Int32} {x2 : Int32} {x3 : Int32} {x4 : Int32} {x5 : Int32} {x6 : Int32} {z : ow_MS} {Q : (Int32 × ow_MS) → Prop} (H : Tt (fun K k => qm_X13_unit_1 K (q_X13_unit K k) x1 x2 x3 x4 x5 x6 z) Q) : Tt (fun K k => q_X13_unit K k 1 x1 x2 x3 x4 x5 x6 z) Q := w_un (fun _ _ => rfl) H
theorem u_X13_unit_4 {x1 : Int32} {x2 : Int32} {x3 : Int32} {x4 : Int32} {x5 : Int32} {x6 : Int32} {z : ow_MS} {Q : (Int32 × ow_MS) → Prop} (H : Tt (fun K k => qm_X13_unit_4 K (q_X13_unit K k) x1 x2 x3 x4 x5 x6 z) Q) : Tt (fun K k => q_X13_unit K k 4 x1 x2 x3 x4 x5 x6 z) Q := w_un (fun _ _ => rfl) H
theorem u_X13_unit_2 {x1 : Int32} {x2 : Int32} {x3 : Int32} {x4 : Int32} {x5 : Int32} {x6 : Int32} {z : ow_MS} {Q : (Int32 × ow_MS) → Prop} (H : Tt (fun K k => qm_X13_unit_2 K (q_X13_unit K k) x1 x2 x3 x4 x5 x6 z) Q) : Tt (fun K k => q_X13_unit K k 2 x1 x2 x3 x4 x5 x6 z) Q := w_un (fun _ _ => rfl) H
theorem u_X13_unit_3 {x1 : Int32} {x2 : Int32} {x3 : Int32} {x4 : Int32} {x5 : Int32} {x6 : Int32} {z : ow_MS} {Q : (Int32 × ow_MS) → Prop} (H : Tt (fun K k => qm_X13_unit_3 K (q_X13_unit K k) x1 x2 x3 x4 x5 x6 z) Q) : Tt (fun K k => q_X13_unit K k 3 x1 x2 x3 x4 x5 x6 z) Q := w_un (fun _ _ => rfl) H
theorem e_X13_unit {x1 : Int32} {x2 : Int32} {z : ow_MS} {Q : (Int32 × ow_MS) → Prop} (H : Tt (fun K k => q_X13_unit K k 0 x1 x2 0 0 0 0 z) Q) : Te (fun K => qe_X13_unit K x1 x2 z) Q := w_te H
theorem u_X13_unit_0 {x1 : Int32} {x2 : Int32} {x3 : Int32} {x4 : Int32} {x5 : Int32} {x6 : Int32} {z : ow_MS} {Q : (Int32 × ow_MS) → Prop} (H : Tt (fun K k => qm_X13_unit_0 K (q_X13_unit K k) x1 x2 x3 x4 x5 x6 z) Q) : Tt (fun K k => q_X13_unit K k 0 x1 x2 x3 x4 x5 x6 z) Q := w_un (fun _ _ => rfl) H
theorem tp_unit {t c a : Nat} (ht : t < c) (hc : c ≤ 12) (hta : t < a) (ha : a ≤ 18) (h58 : z.1 58 = nI a) : Te (fun K => qe_X13_unit K (nI t) (nI c) z) (fun r => fr (fun g => g = 64) z r.2) := by
  let Q : Int32 × ow_MS → Prop := fun r => fr (fun g => g = 64) z r.2
  have aF : ∀ {y : ow_MS}, fr (fun g => g = 64) z y → y.1 58 = nI a := fun hf => by rw [(hf 58 (by omega)).1]; exact h58
  have c7 : ∀ (d i r s : Nat) (y : ow_MS), i + d = c → r < c → s < a → fr (fun g => g = 64) z y → Tt (fun K k => q_X13_unit K k 7 (nI t) (nI c) (nI r) (nI s) (nI i) 0 y) Q := by
    intro d
    induction d with
    | zero =>
      intro i r s y hi hr hs hf
      refine u_X13_unit_7 ?_; unfold qm_X13_unit_7
      exact w_leT (by omega) (by omega) (w_okZ (Or.inr rfl) (w_some hf))
    | succ d ih =>
      intro i r s y hi hr hs hf
      refine u_X13_unit_7 ?_; unfold qm_X13_unit_7
      rw [nI_1, gr_ix, gr_ix]
      exact w_leF (by omega) (by omega) (w_rdJ ml64 rfl (by omega) rfl (w_rdJ ml64 rfl (by omega) rfl (w_wrJ ml64 rfl (by omega) (w_wrJ ml64 rfl (by omega) (ih (i + 1) r s _ (by omega) hr hs (fr_J2 (fr_J2 hf rfl) rfl))))))
  have c6 : ∀ (d i r s : Nat) (y : ow_MS), i + d = a → r < c → s < a → fr (fun g => g = 64) z y → Tt (fun K k => q_X13_unit K k 6 (nI t) (nI c) (nI r) (nI s) (nI i) 0 y) Q := by
    intro d
    induction d with
    | zero =>
      intro i r s y hi hr hs hf
      refine u_X13_unit_6 ?_; unfold qm_X13_unit_6
      exact w_rdF (aF hf) (w_leT (by omega) (by omega) (c7 c 0 r s y (by omega) hr hs hf))
    | succ d ih =>
      intro i r s y hi hr hs hf
      refine u_X13_unit_6 ?_; unfold qm_X13_unit_6
      rw [nI_1, gr_ix, gr_ix]
      exact w_rdF (aF hf) (w_leF (by omega) (by omega) (w_rdJ ml64 rfl (by omega) rfl (w_rdJ ml64 rfl (by omega) rfl (w_wrJ ml64 rfl (by omega) (w_wrJ ml64 rfl (by omega) (ih (i + 1) r s _ (by omega) hr hs (fr_J2 (fr_J2 hf rfl) rfl)))))))
  have c5 : ∀ (x3 x4 x5 : Int32), (x3 = -1 ∨ ∃ r s, x3 = nI r ∧ r < c ∧ x4 = nI s ∧ s < a) → Tt (fun K k => q_X13_unit K k 5 (nI t) (nI c) x3 x4 x5 0 z) Q := by
    intro x3 x4 x5 h
    refine u_X13_unit_5 ?_; unfold qm_X13_unit_5
    refine w_if (fun _ => w_okZ (Or.inl rfl) (w_some fr_rf)) (fun h9 => ?_)
    rcases h with h | ⟨r, s, rfl, hr, rfl, hs⟩
    · exact absurd h h9
    · exact c6 a 0 r s z (by omega) hr hs fr_rf
  have c1 : ∀ (d i : Nat) (x3 x4 : Int32), i + d = c → (x3 = -1 ∨ ∃ r s, x3 = nI r ∧ r < c ∧ x4 = nI s ∧ s < a) → Tt (fun K k => q_X13_unit K k 1 (nI t) (nI c) x3 x4 (nI i) 0 z) Q := by
    intro d
    induction d with
    | zero =>
      intro i x3 x4 hi h
      refine u_X13_unit_1 ?_; unfold qm_X13_unit_1
      exact w_leT (by omega) (by omega) (c5 _ _ _ h)
    | succ d ih =>
      intro i x3 x4 hi h
      have c4 : ∀ (x3 x4 x6 : Int32), (x3 = -1 ∨ ∃ r s, x3 = nI r ∧ r < c ∧ x4 = nI s ∧ s < a) → Tt (fun K k => q_X13_unit K k 4 (nI t) (nI c) x3 x4 (nI i) x6 z) Q := by
        intro x3 x4 x6 h
        refine u_X13_unit_4 ?_; unfold qm_X13_unit_4
        rw [nI_1]
        exact ih (i + 1) x3 x4 (by omega) h
      have c2 : ∀ (d j : Nat) (x3 x4 : Int32), j + d = a → (x3 = -1 ∨ ∃ r s, x3 = nI r ∧ r < c ∧ x4 = nI s ∧ s < a) → Tt (fun K k => q_X13_unit K k 2 (nI t) (nI c) x3 x4 (nI i) (nI j) z) Q := by
        intro d
        induction d with
        | zero =>
          intro j x3 x4 hj h
          refine u_X13_unit_2 ?_; unfold qm_X13_unit_2
          exact w_rdF h58 (w_leT (by omega) (by omega) (c4 _ _ _ h))
        | succ d ih2 =>
          intro j x3 x4 hj h
          refine u_X13_unit_2 ?_; unfold qm_X13_unit_2
          rw [gr_ix]
          refine w_rdF h58 (w_leF (by omega) (by omega) (w_if (fun h9 => w_rdJ ml64 rfl (by omega) rfl (w_if (fun _ => ?_) (fun _ => ?_))) (fun _ => c4 _ _ _ h)))
          · refine u_X13_unit_3 ?_; unfold qm_X13_unit_3
            rw [nI_1]
            exact ih2 (j + 1) _ _ (by omega) (Or.inr ⟨i, j, rfl, by omega, rfl, by omega⟩)
          · refine u_X13_unit_3 ?_; unfold qm_X13_unit_3
            rw [nI_1]
            exact ih2 (j + 1) _ _ (by omega) h
      refine u_X13_unit_1 ?_; unfold qm_X13_unit_1
      exact w_leF (by omega) (by omega) (w_if (fun _ => c2 (a - t) t _ _ (by omega) h) (fun _ => c5 _ _ _ h))
  refine e_X13_unit ?_
  refine u_X13_unit_0 ?_; unfold qm_X13_unit_0
  exact c1 (c - t) t _ _ (by omega) (Or.inl rfl)
/-- what leave leaves -/
def lvI (y : ow_MS) (m q c a : Nat) : Prop := y.1 70 = nI m ∧ y.1 71 = nI q ∧ (∀ i, i < m → inR y 68 i c) ∧ ∀ i, i < q → inR y 69 i a
theorem u_X13_leave_5 {x1 : Int32} {x2 : Int32} {x3 : Int32} {x4 : Int32} {x5 : Int32} {t0 : Int32} {t1 : Int32} {z : ow_MS} {Q : ow_MS → Prop} (H : Tt (fun K k => qm_X13_leave_5 K (q_X13_leave K k) x1 x2 x3 x4 x5 t0 t1 z) Q) : Tt (fun K k => q_X13_leave K k 5 x1 x2 x3 x4 x5 t0 t1 z) Q := w_un (fun _ _ => rfl) H
theorem u_X13_leave_8 {x1 : Int32} {x2 : Int32} {x3 : Int32} {x4 : Int32} {x5 : Int32} {t0 : Int32} {t1 : Int32} {z : ow_MS} {Q : ow_MS → Prop} (H : Tt (fun K k => qm_X13_leave_8 K (q_X13_leave K k) x1 x2 x3 x4 x5 t0 t1 z) Q) : Tt (fun K k => q_X13_leave K k 8 x1 x2 x3 x4 x5 t0 t1 z) Q := w_un (fun _ _ => rfl) H
theorem u_X13_leave_6 {x1 : Int32} {x2 : Int32} {x3 : Int32} {x4 : Int32} {x5 : Int32} {t0 : Int32} {t1 : Int32} {z : ow_MS} {Q : ow_MS → Prop} (H : Tt (fun K k => qm_X13_leave_6 K (q_X13_leave K k) x1 x2 x3 x4 x5 t0 t1 z) Q) : Tt (fun K k => q_X13_leave K k 6 x1 x2 x3 x4 x5 t0 t1 z) Q := w_un (fun _ _ => rfl) H
theorem u_X13_leave_7 {x1 : Int32} {x2 : Int32} {x3 : Int32} {x4 : Int32} {x5 : Int32} {t0 : Int32} {t1 : Int32} {z : ow_MS} {Q : ow_MS → Prop} (H : Tt (fun K k => qm_X13_leave_7 K (q_X13_leave K k) x1 x2 x3 x4 x5 t0 t1 z) Q) : Tt (fun K k => q_X13_leave K k 7 x1 x2 x3 x4 x5 t0 t1 z) Q := w_un (fun _ _ => rfl) H
theorem u_X13_leave_1 {x1 : Int32} {x2 : Int32} {x3 : Int32} {x4 : Int32} {x5 : Int32} {t0 : Int32} {t1 : Int32} {z : ow_MS} {Q : ow_MS → Prop} (H : Tt (fun K k => qm_X13_leave_1 K (q_X13_leave K k) x1 x2 x3 x4 x5 t0 t1 z) Q) : Tt (fun K k => q_X13_leave K k 1 x1 x2 x3 x4 x5 t0 t1 z) Q := w_un (fun _ _ => rfl) H
theorem u_X13_leave_4 {x1 : Int32} {x2 : Int32} {x3 : Int32} {x4 : Int32} {x5 : Int32} {t0 : Int32} {t1 : Int32} {z : ow_MS} {Q : ow_MS → Prop} (H : Tt (fun K k => qm_X13_leave_4 K (q_X13_leave K k) x1 x2 x3 x4 x5 t0 t1 z) Q) : Tt (fun K k => q_X13_leave K k 4 x1 x2 x3 x4 x5 t0 t1 z) Q := w_un (fun _ _ => rfl) H
theorem u_X13_leave_2 {x1 : Int32} {x2 : Int32} {x3 : Int32} {x4 : Int32} {x5 : Int32} {t0 : Int32} {t1 : Int32} {z : ow_MS} {Q : ow_MS → Prop} (H : Tt (fun K k => qm_X13_leave_2 K (q_X13_leave K k) x1 x2 x3 x4 x5 t0 t1 z) Q) : Tt (fun K k => q_X13_leave K k 2 x1 x2 x3 x4 x5 t0 t1 z) Q := w_un (fun _ _ => rfl) H
theorem u_X13_leave_3 {x1 : Int32} {x2 : Int32} {x3 : Int32} {x4 : Int32} {x5 : Int32} {t0 : Int32} {t1 : Int32} {z : ow_MS} {Q : ow_MS → Prop} (H : Tt (fun K k => qm_X13_leave_3 K (q_X13_leave K k) x1 x2 x3 x4 x5 t0 t1 z) Q) : Tt (fun K k => q_X13_leave K k 3 x1 x2 x3 x4 x5 t0 t1 z) Q := w_un (fun _ _ => rfl) H
theorem e_X13_leave {x1 : Int32} {x2 : Int32} {z : ow_MS} {Q : ow_MS → Prop} (H : Tt (fun K k => q_X13_leave K k 0 x1 x2 0 0 0 0 0 z) Q) : Te (fun K => qe_X13_leave K x1 x2 z) Q := w_te H
theorem u_X13_leave_0 {x1 : Int32} {x2 : Int32} {x3 : Int32} {x4 : Int32} {x5 : Int32} {t0 : Int32} {t1 : Int32} {z : ow_MS} {Q : ow_MS → Prop} (H : Tt (fun K k => qm_X13_leave_0 K (q_X13_leave K k) x1 x2 x3 x4 x5 t0 t1 z) Q) : Tt (fun K k => q_X13_leave K k 0 x1 x2 x3 x4 x5 t0 t1 z) Q := w_un (fun _ _ => rfl) H
theorem tp_leave {t c a : Nat} (ht : t ≤ c) (hc : c ≤ 12) (hta : t ≤ a) (ha : a ≤ 18) (h58 : z.1 58 = nI a) : Te (fun K => qe_X13_leave K (nI t) (nI c) z) (fun z1 => (∃ m q, m ≤ c ∧ q ≤ a ∧ lvI z1 m q c a) ∧ fr (fun g => 68 ≤ g ∧ g ≤ 71) z z1) := by
  let Q : ow_MS → Prop := fun z1 => (∃ m q, m ≤ c ∧ q ≤ a ∧ lvI z1 m q c a) ∧ fr (fun g => 68 ≤ g ∧ g ≤ 71) z z1
  have aF : ∀ {y : ow_MS}, fr (fun g => 68 ≤ g ∧ g ≤ 71) z y → y.1 58 = nI a := fun hf => by rw [(hf 58 (by omega)).1]; exact h58
  have c5 : ∀ (d j m q : Nat) (y : ow_MS), j + d = a → t ≤ j → m ≤ c → q + t ≤ j → fr (fun g => 68 ≤ g ∧ g ≤ 71) z y → lvI y m q c a → Tt (fun K k => q_X13_leave K k 5 (nI t) (nI c) (nI j) 0 0 0 0 y) Q := by
    intro d
    induction d with
    | zero =>
      intro j m q y hj htj hm hq hf hL
      refine u_X13_leave_5 ?_; unfold qm_X13_leave_5
      exact w_rdF (aF hf) (w_leT (by omega) (by omega) (w_some ⟨⟨m, q, hm, by omega, hL⟩, hf⟩))
    | succ d ih =>
      intro j m q y hj htj hm hq hf hL
      have c8 : ∀ (x4 x5 : Int32) (q : Nat) (y : ow_MS), q + t ≤ j + 1 → fr (fun g => 68 ≤ g ∧ g ≤ 71) z y → lvI y m q c a → Tt (fun K k => q_X13_leave K k 8 (nI t) (nI c) (nI j) x4 x5 0 0 y) Q := by
        intro x4 x5 q y hq hf hL
        refine u_X13_leave_8 ?_; unfold qm_X13_leave_8
        rw [nI_1]
        exact ih (j + 1) m q y (by omega) (by omega) hm (by omega) hf hL
      have c6 : ∀ (d i : Nat) (x4 : Int32), i + d = c → Tt (fun K k => q_X13_leave K k 6 (nI t) (nI c) (nI j) x4 (nI i) 0 0 y) Q := by
        intro d
        induction d with
        | zero =>
          intro i x4 hi
          refine u_X13_leave_6 ?_; unfold qm_X13_leave_6
          refine w_leT (by omega) (by omega) (w_if (fun _ => c8 _ _ q y (by omega) hf hL) (fun _ => w_rdF hL.2.1 (w_wrI ml69 rfl (by omega) (w_rdF (x := nI q) hL.2.1 (w_wrF (c8 _ _ (q + 1) _ (by omega) (fr_F2 (fr_I2 hf (by omega)) (by omega)) ⟨?_, po_usF_at.trans (nI_1 q), fun k hk => ?_, fun k hk => ?_⟩))))))
          · exact rf_ot (by omega) hL.1
          · exact inR_ot (by omega) (hL.2.2.1 k hk)
          · show inR (usI y 69 q (nI j)) 69 k a
            by_cases hkq : k = q
            · rw [hkq]; exact inR_set (by omega)
            · exact inR_keep (hL.2.2.2 k (by omega)) ⟨j, by omega, rfl⟩
        | succ d ih6 =>
          intro i x4 hi
          refine u_X13_leave_6 ?_; unfold qm_X13_leave_6
          rw [gr_ix]
          refine w_leF (by omega) (by omega) (w_rdJ ml64 rfl (by omega) rfl (w_if (fun _ => ?_) (fun _ => ?_)))
          · refine u_X13_leave_7 ?_; unfold qm_X13_leave_7
            rw [nI_1]
            exact ih6 (i + 1) _ (by omega)
          · refine u_X13_leave_7 ?_; unfold qm_X13_leave_7
            rw [nI_1]
            exact ih6 (i + 1) _ (by omega)
      refine u_X13_leave_5 ?_; unfold qm_X13_leave_5
      exact w_rdF (aF hf) (w_leF (by omega) (by omega) (c6 (c - t) t 0 (by omega)))
  have c1 : ∀ (d i m : Nat) (y : ow_MS), i + d = c → t ≤ i → m + t ≤ i → fr (fun g => 68 ≤ g ∧ g ≤ 71) z y → y.1 70 = nI m → (∀ k, k < m → inR y 68 k c) → Tt (fun K k => q_X13_leave K k 1 (nI t) (nI c) (nI i) 0 0 0 0 y) Q := by
    intro d
    induction d with
    | zero =>
      intro i m y hi hti hm hf h70 hR
      refine u_X13_leave_1 ?_; unfold qm_X13_leave_1
      exact w_leT (by omega) (by omega) (w_wrF (c5 (a - t) t m 0 _ (by omega) (Nat.le_refl _) (by omega) (by omega) (fr_F2 hf (by omega)) ⟨rf_ot (by omega) h70, po_usF_at, hR, fun k hk => absurd hk (by omega)⟩))
    | succ d ih =>
      intro i m y hi hti hm hf h70 hR
      have c4 : ∀ (x4 x5 : Int32) (m : Nat) (y : ow_MS), m + t ≤ i + 1 → fr (fun g => 68 ≤ g ∧ g ≤ 71) z y → y.1 70 = nI m → (∀ k, k < m → inR y 68 k c) → Tt (fun K k => q_X13_leave K k 4 (nI t) (nI c) (nI i) x4 x5 0 0 y) Q := by
        intro x4 x5 m y hm hf h70 hR
        refine u_X13_leave_4 ?_; unfold qm_X13_leave_4
        rw [nI_1]
        exact ih (i + 1) m y (by omega) (by omega) (by omega) hf h70 hR
      have c2 : ∀ (d j : Nat) (x4 : Int32), j + d = a → Tt (fun K k => q_X13_leave K k 2 (nI t) (nI c) (nI i) x4 (nI j) 0 0 y) Q := by
        intro d
        induction d with
        | zero =>
          intro j x4 hj
          refine u_X13_leave_2 ?_; unfold qm_X13_leave_2
          refine w_rdF (aF hf) (w_leT (by omega) (by omega) (w_if (fun _ => c4 _ _ m y (by omega) hf h70 hR) (fun _ => w_rdF h70 (w_wrI ml68 rfl (by omega) (w_rdF (x := nI m) h70 (w_wrF (c4 _ _ (m + 1) _ (by omega) (fr_F2 (fr_I2 hf (by omega)) (by omega)) (po_usF_at.trans (nI_1 m)) (fun k hk => ?_))))))))
          show inR (usI y 68 m (nI i)) 68 k c
          by_cases hkq : k = m
          · rw [hkq]; exact inR_set (by omega)
          · exact inR_keep (hR k (by omega)) ⟨i, by omega, rfl⟩
        | succ d ih2 =>
          intro j x4 hj
          refine u_X13_leave_2 ?_; unfold qm_X13_leave_2
          rw [gr_ix]
          refine w_rdF (aF hf) (w_leF (by omega) (by omega) (w_rdJ ml64 rfl (by omega) rfl (w_if (fun _ => ?_) (fun _ => ?_))))
          · refine u_X13_leave_3 ?_; unfold qm_X13_leave_3
            rw [nI_1]
            exact ih2 (j + 1) _ (by omega)
          · refine u_X13_leave_3 ?_; unfold qm_X13_leave_3
            rw [nI_1]
            exact ih2 (j + 1) _ (by omega)
      refine u_X13_leave_1 ?_; unfold qm_X13_leave_1
      exact w_leF (by omega) (by omega) (c2 (a - t) t 0 (by omega))
  refine e_X13_leave ?_
  refine u_X13_leave_0 ?_; unfold qm_X13_leave_0
  exact w_wrF (c1 (c - t) t 0 _ (by omega) (Nat.le_refl _) (by omega) (fr_F (by omega)) po_usF_at (fun k hk => absurd hk (by omega)))
theorem u_X13_minor_5 {x1 : Int32} {x2 : Int32} {x3 : Int32} {x4 : Int32} {x5 : Int32} {x6 : Int32} {x7 : Int32} {x8 : Int32} {x9 : Int32} {x10 : Int32} {w5 : Int64} {z : ow_MS} {Q : (Int64 × ow_MS) → Prop} (H : Tt (fun K k => qm_X13_minor_5 K (q_X13_minor K k) x1 x2 x3 x4 x5 x6 x7 x8 x9 x10 w5 z) Q) : Tt (fun K k => q_X13_minor K k 5 x1 x2 x3 x4 x5 x6 x7 x8 x9 x10 w5 z) Q := w_un (fun _ _ => rfl) H
theorem u_X13_minor_9 {x1 : Int32} {x2 : Int32} {x3 : Int32} {x4 : Int32} {x5 : Int32} {x6 : Int32} {x7 : Int32} {x8 : Int32} {x9 : Int32} {x10 : Int32} {w5 : Int64} {z : ow_MS} {Q : (Int64 × ow_MS) → Prop} (H : Tt (fun K k => qm_X13_minor_9 K (q_X13_minor K k) x1 x2 x3 x4 x5 x6 x7 x8 x9 x10 w5 z) Q) : Tt (fun K k => q_X13_minor K k 9 x1 x2 x3 x4 x5 x6 x7 x8 x9 x10 w5 z) Q := w_un (fun _ _ => rfl) H
theorem u_X13_minor_10 {x1 : Int32} {x2 : Int32} {x3 : Int32} {x4 : Int32} {x5 : Int32} {x6 : Int32} {x7 : Int32} {x8 : Int32} {x9 : Int32} {x10 : Int32} {w5 : Int64} {z : ow_MS} {Q : (Int64 × ow_MS) → Prop} (H : Tt (fun K k => qm_X13_minor_10 K (q_X13_minor K k) x1 x2 x3 x4 x5 x6 x7 x8 x9 x10 w5 z) Q) : Tt (fun K k => q_X13_minor K k 10 x1 x2 x3 x4 x5 x6 x7 x8 x9 x10 w5 z) Q := w_un (fun _ _ => rfl) H
theorem u_X13_minor_8 {x1 : Int32} {x2 : Int32} {x3 : Int32} {x4 : Int32} {x5 : Int32} {x6 : Int32} {x7 : Int32} {x8 : Int32} {x9 : Int32} {x10 : Int32} {w5 : Int64} {z : ow_MS} {Q : (Int64 × ow_MS) → Prop} (H : Tt (fun K k => qm_X13_minor_8 K (q_X13_minor K k) x1 x2 x3 x4 x5 x6 x7 x8 x9 x10 w5 z) Q) : Tt (fun K k => q_X13_minor K k 8 x1 x2 x3 x4 x5 x6 x7 x8 x9 x10 w5 z) Q := w_un (fun _ _ => rfl) H
theorem u_X13_minor_6 {x1 : Int32} {x2 : Int32} {x3 : Int32} {x4 : Int32} {x5 : Int32} {x6 : Int32} {x7 : Int32} {x8 : Int32} {x9 : Int32} {x10 : Int32} {w5 : Int64} {z : ow_MS} {Q : (Int64 × ow_MS) → Prop} (H : Tt (fun K k => qm_X13_minor_6 K (q_X13_minor K k) x1 x2 x3 x4 x5 x6 x7 x8 x9 x10 w5 z) Q) : Tt (fun K k => q_X13_minor K k 6 x1 x2 x3 x4 x5 x6 x7 x8 x9 x10 w5 z) Q := w_un (fun _ _ => rfl) H
theorem u_X13_minor_7 {x1 : Int32} {x2 : Int32} {x3 : Int32} {x4 : Int32} {x5 : Int32} {x6 : Int32} {x7 : Int32} {x8 : Int32} {x9 : Int32} {x10 : Int32} {w5 : Int64} {z : ow_MS} {Q : (Int64 × ow_MS) → Prop} (H : Tt (fun K k => qm_X13_minor_7 K (q_X13_minor K k) x1 x2 x3 x4 x5 x6 x7 x8 x9 x10 w5 z) Q) : Tt (fun K k => q_X13_minor K k 7 x1 x2 x3 x4 x5 x6 x7 x8 x9 x10 w5 z) Q := w_un (fun _ _ => rfl) H
theorem u_X13_minor_1 {x1 : Int32} {x2 : Int32} {x3 : Int32} {x4 : Int32} {x5 : Int32} {x6 : Int32} {x7 : Int32} {x8 : Int32} {x9 : Int32} {x10 : Int32} {w5 : Int64} {z : ow_MS} {Q : (Int64 × ow_MS) → Prop} (H : Tt (fun K k => qm_X13_minor_1 K (q_X13_minor K k) x1 x2 x3 x4 x5 x6 x7 x8 x9 x10 w5 z) Q) : Tt (fun K k => q_X13_minor K k 1 x1 x2 x3 x4 x5 x6 x7 x8 x9 x10 w5 z) Q := w_un (fun _ _ => rfl) H
theorem u_X13_minor_4 {x1 : Int32} {x2 : Int32} {x3 : Int32} {x4 : Int32} {x5 : Int32} {x6 : Int32} {x7 : Int32} {x8 : Int32} {x9 : Int32} {x10 : Int32} {w5 : Int64} {z : ow_MS} {Q : (Int64 × ow_MS) → Prop} (H : Tt (fun K k => qm_X13_minor_4 K (q_X13_minor K k) x1 x2 x3 x4 x5 x6 x7 x8 x9 x10 w5 z) Q) : Tt (fun K k => q_X13_minor K k 4 x1 x2 x3 x4 x5 x6 x7 x8 x9 x10 w5 z) Q := w_un (fun _ _ => rfl) H
theorem u_X13_minor_2 {x1 : Int32} {x2 : Int32} {x3 : Int32} {x4 : Int32} {x5 : Int32} {x6 : Int32} {x7 : Int32} {x8 : Int32} {x9 : Int32} {x10 : Int32} {w5 : Int64} {z : ow_MS} {Q : (Int64 × ow_MS) → Prop} (H : Tt (fun K k => qm_X13_minor_2 K (q_X13_minor K k) x1 x2 x3 x4 x5 x6 x7 x8 x9 x10 w5 z) Q) : Tt (fun K k => q_X13_minor K k 2 x1 x2 x3 x4 x5 x6 x7 x8 x9 x10 w5 z) Q := w_un (fun _ _ => rfl) H
theorem u_X13_minor_3 {x1 : Int32} {x2 : Int32} {x3 : Int32} {x4 : Int32} {x5 : Int32} {x6 : Int32} {x7 : Int32} {x8 : Int32} {x9 : Int32} {x10 : Int32} {w5 : Int64} {z : ow_MS} {Q : (Int64 × ow_MS) → Prop} (H : Tt (fun K k => qm_X13_minor_3 K (q_X13_minor K k) x1 x2 x3 x4 x5 x6 x7 x8 x9 x10 w5 z) Q) : Tt (fun K k => q_X13_minor K k 3 x1 x2 x3 x4 x5 x6 x7 x8 x9 x10 w5 z) Q := w_un (fun _ _ => rfl) H
theorem e_X13_minor {x1 : Int32} {x2 : Int32} {x3 : Int32} {z : ow_MS} {Q : (Int64 × ow_MS) → Prop} (H : Tt (fun K k => q_X13_minor K k 0 x1 x2 x3 0 0 0 0 0 0 0 0 z) Q) : Te (fun K => qe_X13_minor K x1 x2 x3 z) Q := w_te H
theorem u_X13_minor_0 {x1 : Int32} {x2 : Int32} {x3 : Int32} {x4 : Int32} {x5 : Int32} {x6 : Int32} {x7 : Int32} {x8 : Int32} {x9 : Int32} {x10 : Int32} {w5 : Int64} {z : ow_MS} {Q : (Int64 × ow_MS) → Prop} (H : Tt (fun K k => qm_X13_minor_0 K (q_X13_minor K k) x1 x2 x3 x4 x5 x6 x7 x8 x9 x10 w5 z) Q) : Tt (fun K k => q_X13_minor K k 0 x1 x2 x3 x4 x5 x6 x7 x8 x9 x10 w5 z) Q := w_un (fun _ _ => rfl) H
theorem tp_minor {m q c a k : Nat} {rs cs : Int32} (hm : m ≤ 12) (hq : q ≤ 18) (hc : c ≤ 12) (ha : a ≤ 18) (hk1 : 1 ≤ k) (hk : k ≤ 12) (hL : lvI z m q c a) : Te (fun K => qe_X13_minor K rs cs (nI k) z) (fun r => fr (fun g => g = 72) z r.2) := by
  let Q : Int64 × ow_MS → Prop := fun r => fr (fun g => g = 72) z r.2
  have lF : ∀ {y : ow_MS}, fr (fun g => g = 72) z y → lvI y m q c a := fun hf => ⟨by rw [(hf 70 (by omega)).1]; exact hL.1, by rw [(hf 71 (by omega)).1]; exact hL.2.1, fun i hi => inR_fr hf (by omega) (hL.2.2.1 i hi), fun i hi => inR_fr hf (by omega) (hL.2.2.2 i hi)⟩
  have c5 : ∀ (d t : Nat) (x4 : Int32) (w5 : Int64) (y : ow_MS), t + 1 + d = k → w5 ≠ 0 → fr (fun g => g = 72) z y → Tt (fun K i => q_X13_minor K i 5 rs cs (nI k) x4 0 0 (nI t) 0 0 0 w5 y) Q := by
    intro d
    induction d with
    | zero =>
      intro t x4 w5 y ht hw hf
      refine u_X13_minor_5 ?_; unfold qm_X13_minor_5
      rw [nI_1, show nI k - 1 = nI (k - 1) from pk_sub (b := 1) hk1, show (14 : Int32) * nI (k - 1) = nI (14 * (k - 1)) from pk_mul 14 _]
      exact w_leT (by omega) (by omega) (w_rdJ ml72 rfl (by omega) rfl (w_some hf))
    | succ d ih =>
      intro t x4 w5 y ht hw hf
      have c9 : ∀ (d2 r : Nat) (x8 : Int32) (y : ow_MS), r + d2 = k → t < r → fr (fun g => g = 72) z y → y.2.2 72 (13 * t + t) ≠ 0 → Tt (fun K i => q_X13_minor K i 9 rs cs (nI k) x4 0 0 (nI t) x8 (nI r) 0 w5 y) Q := by
        intro d2
        induction d2 with
        | zero =>
          intro r x8 y hr htr hf hp
          refine u_X13_minor_9 ?_; unfold qm_X13_minor_9
          rw [nI_1, show (14 : Int32) * nI t = nI (14 * t) from pk_mul 14 _]
          exact w_leT (by omega) (by omega) (w_rdJ ml72 rfl (by omega) rfl (ih (t + 1) x4 _ y (by omega) (by rw [show 14 * t = 13 * t + t by omega]; exact hp) hf))
        | succ d2 ih2 =>
          intro r x8 y hr htr hf hp
          have c10 : ∀ (d3 s : Nat) (y : ow_MS), s + d3 = k → t < s → fr (fun g => g = 72) z y → y.2.2 72 (13 * t + t) ≠ 0 → Tt (fun K i => q_X13_minor K i 10 rs cs (nI k) x4 0 0 (nI t) x8 (nI r) (nI s) w5 y) Q := by
            intro d3
            induction d3 with
            | zero =>
              intro s y hs hts hf hp
              refine u_X13_minor_10 ?_; unfold qm_X13_minor_10
              rw [show nI r + 1 = nI (r + 1) from nI_1 _]
              exact w_leT (by omega) (by omega) (ih2 (r + 1) x8 y (by omega) (by omega) hf hp)
            | succ d3 ih3 =>
              intro s y hs hts hf hp
              refine u_X13_minor_10 ?_; unfold qm_X13_minor_10
              rw [show nI s + 1 = nI (s + 1) from nI_1 _, sq_ix, sq_ix, sq_ix, sq_ix]
              refine w_leF (by omega) (by omega) (w_rdJ ml72 rfl (by omega) rfl (w_rdJ ml72 rfl (by omega) rfl (w_rdJ ml72 rfl (by omega) rfl (w_rdJ ml72 rfl (by omega) rfl (w_nzJ hw (w_wrJ ml72 rfl (by omega) (ih3 (s + 1) _ (by omega) (by omega) (fr_J2 hf rfl) ?_)))))))
              rw [usJ_ne (by omega)]
              exact hp
          refine u_X13_minor_9 ?_; unfold qm_X13_minor_9
          rw [show nI t + 1 = nI (t + 1) from nI_1 _]
          exact w_leF (by omega) (by omega) (c10 (k - (t + 1)) (t + 1) y (by omega) (by omega) hf hp)
      have c8 : ∀ (d2 j p : Nat) (y : ow_MS), j + d2 = k → p < k → fr (fun g => g = 72) z y → (j ≤ t → y.2.2 72 (13 * p + t) ≠ 0) → (t < j → y.2.2 72 (13 * t + t) ≠ 0) → Tt (fun K i => q_X13_minor K i 8 rs cs (nI k) x4 0 0 (nI t) (nI p) (nI j) 0 w5 y) Q := by
        intro d2
        induction d2 with
        | zero =>
          intro j p y hj hp hf h1 h2
          refine u_X13_minor_8 ?_; unfold qm_X13_minor_8
          rw [show nI t + 1 = nI (t + 1) from nI_1 _]
          exact w_leT (by omega) (by omega) (c9 (k - (t + 1)) (t + 1) _ y (by omega) (by omega) hf (h2 (by omega)))
        | succ d2 ih2 =>
          intro j p y hj hp hf h1 h2
          refine u_X13_minor_8 ?_; unfold qm_X13_minor_8
          rw [show nI j + 1 = nI (j + 1) from nI_1 _, sq_ix, sq_ix]
          refine w_leF (by omega) (by omega) (w_rdJ ml72 rfl (by omega) rfl (w_rdJ ml72 rfl (by omega) rfl (w_wrJ ml72 rfl (by omega) (w_wrJ ml72 rfl (by omega) (ih2 (j + 1) p _ (by omega) hp (fr_J2 (fr_J2 hf rfl) rfl) (fun h9 => ?_) (fun h9 => ?_))))))
          · rw [usJ_ne (by omega), usJ_ne (by omega)]
            exact h1 (by omega)
          · by_cases hjt : j = t
            · rw [hjt, usJ_at]
              exact h1 (by omega)
            · rw [usJ_ne (by omega), usJ_ne (by omega)]
              exact h2 (by omega)
      have c6 : ∀ (d2 p : Nat), p + d2 = k → t ≤ p → Tt (fun K i => q_X13_minor K i 6 rs cs (nI k) x4 0 0 (nI t) (nI p) 0 0 w5 y) Q := by
        intro d2
        induction d2 with
        | zero =>
          intro p hp htp
          refine u_X13_minor_6 ?_; unfold qm_X13_minor_6
          refine w_leT (by omega) (by omega) ?_
          refine u_X13_minor_7 ?_; unfold qm_X13_minor_7
          exact w_ifT (by rw [show p = k by omega]) (w_some hf)
        | succ d2 ih2 =>
          intro p hp htp
          refine u_X13_minor_6 ?_; unfold qm_X13_minor_6
          rw [nI_1, sq_ix]
          refine w_leF (by omega) (by omega) (w_rdJ ml72 rfl (by omega) rfl (w_if (fun _ => ih2 (p + 1) (by omega) (by omega)) (fun h9 => ?_)))
          refine u_X13_minor_7 ?_; unfold qm_X13_minor_7
          exact w_ifF (fun e => absurd ((nI_eq (by omega) (by omega)).mp e) (by omega)) (c8 k 0 p y (by omega) (by omega) hf (fun _ e => h9 (cmp_0.mpr e)) (fun h8 => absurd h8 (by omega)))
      refine u_X13_minor_5 ?_; unfold qm_X13_minor_5
      rw [nI_1]
      exact w_leF (by omega) (by omega) (c6 (k - t) t (by omega) (Nat.le_refl _))
  have c1 : ∀ (d r i : Nat) (y : ow_MS), r + d = m → i ≤ r → fr (fun g => g = 72) z y → Tt (fun K t => q_X13_minor K t 1 rs cs (nI k) (nI i) (nI r) 0 0 0 0 0 0 y) Q := by
    intro d
    induction d with
    | zero =>
      intro r i y hr hi hf
      refine u_X13_minor_1 ?_; unfold qm_X13_minor_1
      exact w_rdF (lF hf).1 (w_leT (by omega) (by omega) (c5 (k - 1) 0 _ 1 y (by omega) (by decide) hf))
    | succ d ih =>
      intro r i y hr hi hf
      have c4 : ∀ (i : Nat) (y : ow_MS), i ≤ r + 1 → fr (fun g => g = 72) z y → Tt (fun K t => q_X13_minor K t 4 rs cs (nI k) (nI i) (nI r) 0 0 0 0 0 0 y) Q := by
        intro i y hi hf
        refine u_X13_minor_4 ?_; unfold qm_X13_minor_4
        rw [nI_1]
        exact ih (r + 1) i y (by omega) (by omega) hf
      have c2 : ∀ (d s j : Nat) (y : ow_MS), s + d = q → j ≤ s → fr (fun g => g = 72) z y → Tt (fun K t => q_X13_minor K t 2 rs cs (nI k) (nI i) (nI r) (nI j) (nI s) 0 0 0 0 y) Q := by
        intro d
        induction d with
        | zero =>
          intro s j y hs hj hf
          refine u_X13_minor_2 ?_; unfold qm_X13_minor_2
          rw [show nI i + 1 = nI (i + 1) from nI_1 _]
          exact w_rdF (lF hf).2.1 (w_leT (by omega) (by omega) (c4 (i + 1) y (by omega) hf))
        | succ d ih2 =>
          intro s j y hs hj hf
          obtain ⟨r0, hr0, er⟩ := (lF hf).2.2.1 r (by omega)
          obtain ⟨s0, hs0, es⟩ := (lF hf).2.2.2 s (by omega)
          refine u_X13_minor_2 ?_; unfold qm_X13_minor_2
          rw [show nI j + 1 = nI (j + 1) from nI_1 _, sq_ix]
          refine w_rdF (lF hf).2.1 (w_leF (by omega) (by omega) (w_if (fun _ => w_rdI ml68 rfl (by omega) er (w_rdI ml69 rfl (by omega) es (w_rdJ (i := 24 * r0 + s0) ml64 gr_ix (by omega) rfl (w_wrJ ml72 rfl (by omega) ?_)))) (fun _ => ?_)))
          · refine u_X13_minor_3 ?_; unfold qm_X13_minor_3
            rw [show nI s + 1 = nI (s + 1) from nI_1 _]
            exact ih2 (s + 1) (j + 1) _ (by omega) (by omega) (fr_J2 hf rfl)
          · refine u_X13_minor_3 ?_; unfold qm_X13_minor_3
            rw [show nI s + 1 = nI (s + 1) from nI_1 _]
            exact ih2 (s + 1) j _ (by omega) (by omega) hf
      refine u_X13_minor_1 ?_; unfold qm_X13_minor_1
      exact w_rdF (lF hf).1 (w_leF (by omega) (by omega) (w_if (fun _ => c2 q 0 0 y (by omega) (Nat.le_refl _) hf) (fun _ => c4 i y (by omega) hf)))
  refine e_X13_minor ?_
  refine u_X13_minor_0 ?_; unfold qm_X13_minor_0
  exact c1 m 0 0 z (by omega) (Nat.le_refl _) fr_rf
theorem u_X13_divisor_1 {x1 : Int32} {x6 : Int32} {x7 : Int32} {w2 : Int64} {w4 : Int64} {z : ow_MS} {Q : (Int64 × ow_MS) → Prop} (H : Tt (fun K k => qm_X13_divisor_1 K (q_X13_divisor K k) x1 x6 x7 w2 w4 z) Q) : Tt (fun K k => q_X13_divisor K k 1 x1 x6 x7 w2 w4 z) Q := w_un (fun _ _ => rfl) H
theorem u_X13_divisor_4 {x1 : Int32} {x6 : Int32} {x7 : Int32} {w2 : Int64} {w4 : Int64} {z : ow_MS} {Q : (Int64 × ow_MS) → Prop} (H : Tt (fun K k => qm_X13_divisor_4 K (q_X13_divisor K k) x1 x6 x7 w2 w4 z) Q) : Tt (fun K k => q_X13_divisor K k 4 x1 x6 x7 w2 w4 z) Q := w_un (fun _ _ => rfl) H
theorem u_X13_divisor_2 {x1 : Int32} {x6 : Int32} {x7 : Int32} {w2 : Int64} {w4 : Int64} {z : ow_MS} {Q : (Int64 × ow_MS) → Prop} (H : Tt (fun K k => qm_X13_divisor_2 K (q_X13_divisor K k) x1 x6 x7 w2 w4 z) Q) : Tt (fun K k => q_X13_divisor K k 2 x1 x6 x7 w2 w4 z) Q := w_un (fun _ _ => rfl) H
theorem u_X13_divisor_3 {x1 : Int32} {x6 : Int32} {x7 : Int32} {w2 : Int64} {w4 : Int64} {z : ow_MS} {Q : (Int64 × ow_MS) → Prop} (H : Tt (fun K k => qm_X13_divisor_3 K (q_X13_divisor K k) x1 x6 x7 w2 w4 z) Q) : Tt (fun K k => q_X13_divisor K k 3 x1 x6 x7 w2 w4 z) Q := w_un (fun _ _ => rfl) H
theorem e_X13_divisor {x1 : Int32} {w2 : Int64} {z : ow_MS} {Q : (Int64 × ow_MS) → Prop} (H : Tt (fun K k => q_X13_divisor K k 0 x1 0 0 w2 0 z) Q) : Te (fun K => qe_X13_divisor K x1 w2 z) Q := w_te H
theorem u_X13_divisor_0 {x1 : Int32} {x6 : Int32} {x7 : Int32} {w2 : Int64} {w4 : Int64} {z : ow_MS} {Q : (Int64 × ow_MS) → Prop} (H : Tt (fun K k => qm_X13_divisor_0 K (q_X13_divisor K k) x1 x6 x7 w2 w4 z) Q) : Tt (fun K k => q_X13_divisor K k 0 x1 x6 x7 w2 w4 z) Q := w_un (fun _ _ => rfl) H
theorem tp_divisor {m q c a k : Nat} {w : Int64} (hm : m ≤ 12) (hq : q ≤ 18) (hc : c ≤ 12) (ha : a ≤ 18) (hk1 : 1 ≤ k) (hk2 : k < 2 ^ 31) (hL : lvI z m q c a) : Te (fun K => qe_X13_divisor K (nI k) w z) (fun r => fr (fun g => g = 72) z r.2 ∧ (12 < k → r.1 = 0)) := by
  let Q : Int64 × ow_MS → Prop := fun r => fr (fun g => g = 72) z r.2 ∧ (12 < k → r.1 = 0)
  have lF : ∀ {y : ow_MS}, fr (fun g => g = 72) z y → lvI y m q c a := fun hf => ⟨by rw [(hf 70 (by omega)).1]; exact hL.1, by rw [(hf 71 (by omega)).1]; exact hL.2.1, fun i hi => inR_fr hf (by omega) (hL.2.2.1 i hi), fun i hi => inR_fr hf (by omega) (hL.2.2.2 i hi)⟩
  have hm2 : 2 ^ m ≤ 4096 := two_mono (b := 12) hm
  have hq2 : 2 ^ q ≤ 262144 := two_mono (b := 18) hq
  have c1 : ∀ (d r : Nat) (w4 : Int64) (y : ow_MS), r + d = 2 ^ m → (12 < k → w4 = 0) → fr (fun g => g = 72) z y → Tt (fun K t => q_X13_divisor K t 1 (nI k) (nI r) 0 w w4 y) Q := by
    intro d
    induction d with
    | zero =>
      intro r w4 y hr hw hf
      refine u_X13_divisor_1 ?_; unfold qm_X13_divisor_1
      refine w_rdF (lF hf).1 ?_
      rw [shl1 (by omega)]
      exact w_leT (by omega) (by omega) (w_some ⟨hf, hw⟩)
    | succ d ih =>
      intro r w4 y hr hw hf
      have hpr := pc_le (c := 12) (k := r) (by omega)
      have c4 : ∀ (x7 : Int32) (w4 : Int64) (y : ow_MS), (12 < k → w4 = 0) → fr (fun g => g = 72) z y → Tt (fun K t => q_X13_divisor K t 4 (nI k) (nI r) x7 w w4 y) Q := by
        intro x7 w4 y hw hf
        refine u_X13_divisor_4 ?_; unfold qm_X13_divisor_4
        rw [nI_1]
        exact ih (r + 1) w4 y (by omega) hw hf
      have c2 : ∀ (d s : Nat) (w4 : Int64) (y : ow_MS), s + d = 2 ^ q → (12 < k → w4 = 0) → fr (fun g => g = 72) z y → Tt (fun K t => q_X13_divisor K t 2 (nI k) (nI r) (nI s) w w4 y) Q := by
        intro d
        induction d with
        | zero =>
          intro s w4 y hs hw hf
          refine u_X13_divisor_2 ?_; unfold qm_X13_divisor_2
          refine w_rdF (lF hf).2.1 ?_
          rw [shl1 (by omega)]
          exact w_leT (by omega) (by omega) (c4 _ _ y hw hf)
        | succ d ih2 =>
          intro s w4 y hs hw hf
          refine u_X13_divisor_2 ?_; unfold qm_X13_divisor_2
          refine w_rdF (lF hf).2.1 ?_
          rw [shl1 (by omega), bc_pc (by omega)]
          refine w_leF (by omega) (by omega) (w_if (fun _ => c4 _ _ y hw hf) (fun _ => w_eqN (by omega) hk2 (fun hpk => w_if (fun _ => w_cs1 (tp_minor hm hq hc ha hk1 (by omega) (lF hf)) (fun a1 y1 f1 => w_cs1 tp_gcd (fun a2 y2 e2 => ?_))) (fun _ => ?_)) (fun _ => c4 _ _ y hw hf)))
          · have e2 : y2 = y1 := e2
            subst e2
            refine u_X13_divisor_3 ?_; unfold qm_X13_divisor_3
            rw [nI_1]
            exact ih2 (s + 1) _ y2 (by omega) (fun h9 => absurd h9 (by omega)) (fr_tr hf f1)
          · refine u_X13_divisor_3 ?_; unfold qm_X13_divisor_3
            rw [nI_1]
            exact ih2 (s + 1) _ y (by omega) hw hf
      refine u_X13_divisor_1 ?_; unfold qm_X13_divisor_1
      refine w_rdF (lF hf).1 ?_
      rw [shl1 (by omega)]
      exact w_leF (by omega) (by omega) (w_if (fun _ => w_some ⟨hf, hw⟩) (fun _ => c2 (2 ^ q) 0 w4 y (by omega) hw hf))
  refine e_X13_divisor ?_
  refine u_X13_divisor_0 ?_; unfold qm_X13_divisor_0
  exact c1 (2 ^ m) 0 0 z (by omega) (fun _ => rfl) fr_rf
abbrev cvH (g : Nat) : Prop := 58 ≤ g ∧ g ≤ 64 ∨ 66 ≤ g ∧ g ≤ 72
theorem e_X13_makeCover {r1 : Nat} {z : ow_MS} {Q : ow_MS → Prop} (H : Tt (fun K k => q_X13_makeCover K k 0 0 0 0 0 0 0 0 0 0 r1 z) Q) : Te (fun K => qe_X13_makeCover K r1 z) Q := w_te H
theorem u_X13_makeCover_0 {x2 : Int32} {x3 : Int32} {x4 : Int32} {x6 : Int32} {x7 : Int32} {x9 : Int32} {w4 : Int64} {w5 : Int64} {w7 : Int64} {r1 : Nat} {z : ow_MS} {Q : ow_MS → Prop} (H : Tt (fun K k => qm_X13_makeCover_0 K (q_X13_makeCover K k) x2 x3 x4 x6 x7 x9 w4 w5 w7 r1 z) Q) : Tt (fun K k => q_X13_makeCover K k 0 x2 x3 x4 x6 x7 x9 w4 w5 w7 r1 z) Q := w_un (fun _ _ => rfl) H
theorem u_X13_makeCover_9 {x2 : Int32} {x3 : Int32} {x4 : Int32} {x6 : Int32} {x7 : Int32} {x9 : Int32} {w4 : Int64} {w5 : Int64} {w7 : Int64} {r1 : Nat} {z : ow_MS} {Q : ow_MS → Prop} (H : Tt (fun K k => qm_X13_makeCover_9 K (q_X13_makeCover K k) x2 x3 x4 x6 x7 x9 w4 w5 w7 r1 z) Q) : Tt (fun K k => q_X13_makeCover K k 9 x2 x3 x4 x6 x7 x9 w4 w5 w7 r1 z) Q := w_un (fun _ _ => rfl) H
theorem u_X13_makeCover_7 {x2 : Int32} {x3 : Int32} {x4 : Int32} {x6 : Int32} {x7 : Int32} {x9 : Int32} {w4 : Int64} {w5 : Int64} {w7 : Int64} {r1 : Nat} {z : ow_MS} {Q : ow_MS → Prop} (H : Tt (fun K k => qm_X13_makeCover_7 K (q_X13_makeCover K k) x2 x3 x4 x6 x7 x9 w4 w5 w7 r1 z) Q) : Tt (fun K k => q_X13_makeCover K k 7 x2 x3 x4 x6 x7 x9 w4 w5 w7 r1 z) Q := w_un (fun _ _ => rfl) H
theorem u_X13_makeCover_8 {x2 : Int32} {x3 : Int32} {x4 : Int32} {x6 : Int32} {x7 : Int32} {x9 : Int32} {w4 : Int64} {w5 : Int64} {w7 : Int64} {r1 : Nat} {z : ow_MS} {Q : ow_MS → Prop} (H : Tt (fun K k => qm_X13_makeCover_8 K (q_X13_makeCover K k) x2 x3 x4 x6 x7 x9 w4 w5 w7 r1 z) Q) : Tt (fun K k => q_X13_makeCover K k 8 x2 x3 x4 x6 x7 x9 w4 w5 w7 r1 z) Q := w_un (fun _ _ => rfl) H
theorem u_X13_makeCover_6 {x2 : Int32} {x3 : Int32} {x4 : Int32} {x6 : Int32} {x7 : Int32} {x9 : Int32} {w4 : Int64} {w5 : Int64} {w7 : Int64} {r1 : Nat} {z : ow_MS} {Q : ow_MS → Prop} (H : Tt (fun K k => qm_X13_makeCover_6 K (q_X13_makeCover K k) x2 x3 x4 x6 x7 x9 w4 w5 w7 r1 z) Q) : Tt (fun K k => q_X13_makeCover K k 6 x2 x3 x4 x6 x7 x9 w4 w5 w7 r1 z) Q := w_un (fun _ _ => rfl) H
theorem u_X13_makeCover_3 {x2 : Int32} {x3 : Int32} {x4 : Int32} {x6 : Int32} {x7 : Int32} {x9 : Int32} {w4 : Int64} {w5 : Int64} {w7 : Int64} {r1 : Nat} {z : ow_MS} {Q : ow_MS → Prop} (H : Tt (fun K k => qm_X13_makeCover_3 K (q_X13_makeCover K k) x2 x3 x4 x6 x7 x9 w4 w5 w7 r1 z) Q) : Tt (fun K k => q_X13_makeCover K k 3 x2 x3 x4 x6 x7 x9 w4 w5 w7 r1 z) Q := w_un (fun _ _ => rfl) H
theorem u_X13_makeCover_4 {x2 : Int32} {x3 : Int32} {x4 : Int32} {x6 : Int32} {x7 : Int32} {x9 : Int32} {w4 : Int64} {w5 : Int64} {w7 : Int64} {r1 : Nat} {z : ow_MS} {Q : ow_MS → Prop} (H : Tt (fun K k => qm_X13_makeCover_4 K (q_X13_makeCover K k) x2 x3 x4 x6 x7 x9 w4 w5 w7 r1 z) Q) : Tt (fun K k => q_X13_makeCover K k 4 x2 x3 x4 x6 x7 x9 w4 w5 w7 r1 z) Q := w_un (fun _ _ => rfl) H
theorem u_X13_makeCover_5 {x2 : Int32} {x3 : Int32} {x4 : Int32} {x6 : Int32} {x7 : Int32} {x9 : Int32} {w4 : Int64} {w5 : Int64} {w7 : Int64} {r1 : Nat} {z : ow_MS} {Q : ow_MS → Prop} (H : Tt (fun K k => qm_X13_makeCover_5 K (q_X13_makeCover K k) x2 x3 x4 x6 x7 x9 w4 w5 w7 r1 z) Q) : Tt (fun K k => q_X13_makeCover K k 5 x2 x3 x4 x6 x7 x9 w4 w5 w7 r1 z) Q := w_un (fun _ _ => rfl) H
theorem u_X13_makeCover_2 {x2 : Int32} {x3 : Int32} {x4 : Int32} {x6 : Int32} {x7 : Int32} {x9 : Int32} {w4 : Int64} {w5 : Int64} {w7 : Int64} {r1 : Nat} {z : ow_MS} {Q : ow_MS → Prop} (H : Tt (fun K k => qm_X13_makeCover_2 K (q_X13_makeCover K k) x2 x3 x4 x6 x7 x9 w4 w5 w7 r1 z) Q) : Tt (fun K k => q_X13_makeCover K k 2 x2 x3 x4 x6 x7 x9 w4 w5 w7 r1 z) Q := w_un (fun _ _ => rfl) H
theorem u_X13_makeCover_1 {x2 : Int32} {x3 : Int32} {x4 : Int32} {x6 : Int32} {x7 : Int32} {x9 : Int32} {w4 : Int64} {w5 : Int64} {w7 : Int64} {r1 : Nat} {z : ow_MS} {Q : ow_MS → Prop} (H : Tt (fun K k => qm_X13_makeCover_1 K (q_X13_makeCover K k) x2 x3 x4 x6 x7 x9 w4 w5 w7 r1 z) Q) : Tt (fun K k => q_X13_makeCover K k 1 x2 x3 x4 x6 x7 x9 w4 w5 w7 r1 z) Q := w_un (fun _ _ => rfl) H
theorem tp_makeCover {n : Nat} {A : rn_L} {sg : Nat → Bool} (hn : mw_net n) (hA : oNet z n A sg) : Te (fun K => qe_X13_makeCover K n z) (fun z1 => (∃ k, k ≤ 40 ∧ z1.1 67 = nI k) ∧ fr cvH z z1) := by
  obtain ⟨c, hok, hc⟩ := hA.2.2.1
  have hV := okF_len hok
  have hC := hA.2.2.2
  have hmn := net_mod hn
  let Q : ow_MS → Prop := fun z1 => (∃ k, k ≤ 40 ∧ z1.1 67 = nI k) ∧ fr cvH z z1
  refine e_X13_makeCover ?_
  refine u_X13_makeCover_0 ?_; unfold qm_X13_makeCover_0
  refine w_cs0 (tp_arcs hn hA hok) (fun z1 ⟨⟨a, ha, h58, hR⟩, f1⟩ => ?_)
  have hO1 : oNet z1 n A sg := oNet_fr f1 (fun g hg => by unfold arcH at hg; omega) hA
  refine w_rdF hO1.1.V (w_nzI (by decide) ?_)
  rw [hV, show nI (2 * c) / 2 = nI c from by rw [show nI (2 * c) / 2 = nI (2 * c / 2) from pk_div (d := 2) (by omega) (by omega) (by omega)]; congr 1; omega]
  have f0 : fr cvH z z1 := fr_mono (fun g hg => by unfold arcH at hg; unfold cvH; omega) f1
  have ha18 : a ≤ 18 := by omega
  have c9 : ∀ (d i cv : Nat) (x3 x6 : Int32) (w4 w7 : Int64) (y : ow_MS), cv ≤ 12 + d ∨ cv + d ≤ 31 → i + d = a → cv + d ≤ 31 → fr cvH z y → y.1 58 = nI a → y.1 67 = nI cv → Tt (fun K t => q_X13_makeCover K t 9 (nI c) x3 0 x6 0 (nI i) w4 0 w7 n y) Q := by
    intro d
    induction d with
    | zero =>
      intro i cv x3 x6 w4 w7 y _ hi hcv hf h58 h67
      refine u_X13_makeCover_9 ?_; unfold qm_X13_makeCover_9
      refine w_rdF h58 (w_ifT ?_ (w_some ⟨⟨cv, by omega, h67⟩, hf⟩))
      rw [nI_iI, nI_iI]
      show iI (a : Int) - iI 1 ≤ iI (i : Int)
      rw [iI_sub, iI_le (by omega) (by omega) (by omega) (by omega)]
      omega
    | succ d ih =>
      intro i cv x3 x6 w4 w7 y _ hi hcv hf h58 h67
      refine u_X13_makeCover_9 ?_; unfold qm_X13_makeCover_9
      refine w_rdF h58 (w_if (fun _ => w_some ⟨⟨cv, by omega, h67⟩, hf⟩) (fun _ => w_rdF h67 (w_wrJ ml66 rfl (by omega) (w_rdF (x := nI cv) h67 (w_wrF ?_)))))
      rw [nI_1]
      exact ih (i + 1) (cv + 1) x3 x6 w4 w7 _ (by omega) (by omega) (by omega) (fr_F2 (fr_J2 hf (by unfold cvH; omega)) (by unfold cvH; omega)) (rf_ot (by omega) h58) (po_usF_at.trans (nI_1 cv))
  have c7 : ∀ (d r cv t m q : Nat) (w4 w7 : Int64) (y : ow_MS), r + d = 12 → t ≤ c → cv ≤ r → w4 ≠ 0 → (12 < r + 1 → w7 = 0) → m ≤ 12 → q ≤ 18 → lvI y m q c a → fr cvH z y → y.1 58 = nI a → y.1 67 = nI cv → Tt (fun K i => q_X13_makeCover K i 7 (nI c) (nI t) 0 (nI r) 0 0 w4 0 w7 n y) Q := by
    intro d
    induction d with
    | zero =>
      intro r cv t m q w4 w7 y hr htc hcv hw4 hw7 hm hq hL hf h58 h67
      refine u_X13_makeCover_7 ?_; unfold qm_X13_makeCover_7
      rw [nI_add]
      refine w_ifT (cmp_0.mpr (hw7 (by omega))) ?_
      rcases Nat.lt_or_ge (t + r) a with h9 | h9
      · exact c9 (a - (t + r)) (t + r) cv _ _ _ _ y (by omega) (by omega) (by omega) hf h58 h67
      · refine u_X13_makeCover_9 ?_; unfold qm_X13_makeCover_9
        refine w_rdF h58 (w_ifT ?_ (w_some ⟨⟨cv, by omega, h67⟩, hf⟩))
        rw [nI_iI, nI_iI]
        show iI (a : Int) - iI 1 ≤ iI ((t + r : Nat) : Int)
        rw [iI_sub, iI_le (by omega) (by omega) (by omega) (by omega)]
        omega
    | succ d ih =>
      intro r cv t m q w4 w7 y hr htc hcv hw4 hw7 hm hq hL hf h58 h67
      have c8 : ∀ (cv : Nat) (y : ow_MS), cv ≤ r + 1 → w7 ≠ 0 → lvI y m q c a → fr cvH z y → y.1 58 = nI a → y.1 67 = nI cv → Tt (fun K i => q_X13_makeCover K i 8 (nI c) (nI t) 0 (nI (r + 1)) 0 0 w4 0 w7 n y) Q := by
        intro cv y hcv hw hL hf h58 h67
        refine u_X13_makeCover_8 ?_; unfold qm_X13_makeCover_8
        rw [nI_1]
        refine w_cs1 (tp_divisor (k := r + 1 + 1) (w := w7) hm hq hc ha18 (by omega) (by omega) hL) (fun a1 y1 ⟨f2, h0⟩ => ?_)
        exact ih (r + 1) cv t m q w7 a1 y1 (by omega) htc hcv hw (fun h9 => h0 (by omega)) hm hq ⟨by rw [(f2 70 (by omega)).1]; exact hL.1, by rw [(f2 71 (by omega)).1]; exact hL.2.1, fun i hi => inR_fr f2 (by omega) (hL.2.2.1 i hi), fun i hi => inR_fr f2 (by omega) (hL.2.2.2 i hi)⟩ (fr_tr hf (fr_mono (fun g hg => by unfold cvH; omega) f2)) (by rw [(f2 58 (by omega)).1]; exact h58) (by rw [(f2 67 (by omega)).1]; exact h67)
      refine u_X13_makeCover_7 ?_; unfold qm_X13_makeCover_7
      rw [nI_add, nI_1]
      refine w_if (fun _ => ?_) (fun h9 => w_if (fun _ => c8 cv y (by omega) (fun e => h9 (cmp_0.mpr e)) hL hf h58 h67) (fun _ => w_rdF h67 (w_nzJ hw4 (w_wrJ ml66 rfl (by omega) (w_rdF (x := nI cv) h67 (w_wrF (c8 (cv + 1) _ (by omega) (fun e => h9 (cmp_0.mpr e)) ⟨rf_ot (by omega) hL.1, rf_ot (by omega) hL.2.1, hL.2.2⟩ (fr_F2 (fr_J2 hf (by unfold cvH; omega)) (by unfold cvH; omega)) (rf_ot (by omega) h58) (po_usF_at.trans (nI_1 cv)))))))))
      rcases Nat.lt_or_ge (t + r) a with h8 | h8
      · exact c9 (a - (t + r)) (t + r) cv _ _ _ _ y (by omega) (by omega) (by omega) hf h58 h67
      · refine u_X13_makeCover_9 ?_; unfold qm_X13_makeCover_9
        refine w_rdF h58 (w_ifT ?_ (w_some ⟨⟨cv, by omega, h67⟩, hf⟩))
        rw [nI_iI, nI_iI]
        show iI (a : Int) - iI 1 ≤ iI ((t + r : Nat) : Int)
        rw [iI_sub, iI_le (by omega) (by omega) (by omega) (by omega)]
        omega
  have c6 : ∀ (t : Nat) (y : ow_MS), t ≤ c → t ≤ a → fr cvH z y → y.1 58 = nI a → Tt (fun K i => q_X13_makeCover K i 6 (nI c) (nI t) 0 0 0 0 0 0 0 n y) Q := by
    intro t y htc hta hf h58
    refine u_X13_makeCover_6 ?_; unfold qm_X13_makeCover_6
    refine w_cs0 (tp_leave htc hc hta ha18 h58) (fun y1 ⟨⟨m, q, hm, hq, hL⟩, f2⟩ => w_wrF ?_)
    have hL2 : lvI (usF y1 67 0) m q c a := ⟨rf_ot (by omega) hL.1, rf_ot (by omega) hL.2.1, hL.2.2⟩
    have h58' : (usF y1 67 0).1 58 = nI a := rf_ot (by omega) (by rw [(f2 58 (by omega)).1]; exact h58)
    have hf2 : fr cvH z (usF y1 67 0) := fr_F2 (fr_tr hf (fr_mono (fun g hg => by unfold cvH; omega) f2)) (by unfold cvH; omega)
    refine w_cs1 (tp_divisor (k := 1) (w := 1) (by omega) (by omega) hc ha18 (by omega) (by omega) hL2) (fun a1 y2 ⟨f3, _⟩ => ?_)
    exact c7 12 0 0 t m q 1 a1 y2 (by omega) htc (Nat.le_refl _) (by decide) (fun h9 => absurd h9 (by omega)) (by omega) (by omega) ⟨by rw [(f3 70 (by omega)).1]; exact hL2.1, by rw [(f3 71 (by omega)).1]; exact hL2.2.1, fun i hi => inR_fr f3 (by omega) (hL2.2.2.1 i hi), fun i hi => inR_fr f3 (by omega) (hL2.2.2.2 i hi)⟩ (fr_tr hf2 (fr_mono (fun g hg => by unfold cvH; omega) f3)) (by rw [(f3 58 (by omega)).1]; exact h58') (by rw [(f3 67 (by omega)).1]; exact po_usF_at)
  have c3 : ∀ (d t : Nat) (y : ow_MS), t + d = c → t ≤ a → fr cvH z y → y.1 58 = nI a → Tt (fun K i => q_X13_makeCover K i 3 (nI c) (nI t) 0 0 0 0 0 0 0 n y) Q := by
    intro d
    induction d with
    | zero =>
      intro t y ht hta hf h58
      refine u_X13_makeCover_3 ?_; unfold qm_X13_makeCover_3
      exact w_leT (by omega) (by omega) (c6 t y (by omega) hta hf h58)
    | succ d ih =>
      intro t y ht hta hf h58
      have c4 : ∀ (d2 i : Nat) (y : ow_MS), i + d2 = c → t < i → t < a → fr cvH z y → y.1 58 = nI a → Tt (fun K k => q_X13_makeCover K k 4 (nI c) (nI t) (nI i) 0 0 0 0 0 0 n y) Q := by
        intro d2
        induction d2 with
        | zero =>
          intro i y hi hti hta hf h58
          refine u_X13_makeCover_4 ?_; unfold qm_X13_makeCover_4
          rw [show nI t + 1 = nI (t + 1) from nI_1 _]
          exact w_leT (by omega) (by omega) (ih (t + 1) y (by omega) (by omega) hf h58)
        | succ d2 ih2 =>
          intro i y hi hti hta hf h58
          have c5 : ∀ (d3 j : Nat) (w5 : Int64) (y : ow_MS), j + d3 = a → fr cvH z y → y.1 58 = nI a → Tt (fun K k => q_X13_makeCover K k 5 (nI c) (nI t) (nI i) 0 (nI j) 0 0 w5 0 n y) Q := by
            intro d3
            induction d3 with
            | zero =>
              intro j w5 y hj hf h58
              refine u_X13_makeCover_5 ?_; unfold qm_X13_makeCover_5
              rw [show nI i + 1 = nI (i + 1) from nI_1 _]
              exact w_rdF h58 (w_leT (by omega) (by omega) (ih2 (i + 1) y (by omega) (by omega) hta hf h58))
            | succ d3 ih3 =>
              intro j w5 y hj hf h58
              refine u_X13_makeCover_5 ?_; unfold qm_X13_makeCover_5
              rw [show nI j + 1 = nI (j + 1) from nI_1 _, gr_ix, gr_ix]
              exact w_rdF h58 (w_leF (by omega) (by omega) (w_rdJ ml64 rfl (by omega) rfl (w_rdJ ml64 rfl (by omega) rfl (w_wrJ ml64 rfl (by omega) (ih3 (j + 1) w5 _ (by omega) (fr_J2 hf (by unfold cvH; omega)) h58)))))
          refine u_X13_makeCover_4 ?_; unfold qm_X13_makeCover_4
          rw [gr_ix, gr_ix]
          exact w_leF (by omega) (by omega) (w_rdJ ml64 rfl (by omega) rfl (w_rdJ ml64 rfl (by omega) rfl (c5 (a - t) t _ y (by omega) hf h58)))
      refine u_X13_makeCover_3 ?_; unfold qm_X13_makeCover_3
      refine w_leF (by omega) (by omega) (w_rdF h58 (w_le (by omega) (by omega) (fun _ => c6 t y (by omega) hta hf h58) (fun hta2 => w_cs1 (tp_unit (by omega) hc hta2 ha18 h58) (fun a1 y1 f2 => ?_))))
      have f2 : fr (fun g => g = 64) y y1 := f2
      have hf2 : fr cvH z y1 := fr_tr hf (fr_mono (fun g hg => by unfold cvH; omega) f2)
      have h58' : y1.1 58 = nI a := by rw [(f2 58 (by omega)).1]; exact h58
      rw [show nI t + 1 = nI (t + 1) from nI_1 _]
      exact w_if (fun _ => c6 t y1 (by omega) hta hf2 h58') (fun _ => c4 (c - (t + 1)) (t + 1) y1 (by omega) (by omega) hta2 hf2 h58')
  have c2 : ∀ (d x : Nat) (y : ow_MS), x + d = c → fr cvH z y → arcI y c a → Tt (fun K k => q_X13_makeCover K k 2 (nI c) (nI x) 0 0 0 0 0 0 0 n y) Q := by
    intro d
    induction d with
    | zero =>
      intro x y hx hf hI
      refine u_X13_makeCover_2 ?_; unfold qm_X13_makeCover_2
      exact w_leT (by omega) (by omega) (c3 c 0 y (by omega) (Nat.zero_le _) hf hI.1)
    | succ d ih =>
      intro x y hx hf hI
      obtain ⟨⟨i, hi, ei⟩, ⟨j, hj, ej⟩, ⟨k, hk, ek⟩⟩ := hI.2 x (by omega)
      refine u_X13_makeCover_2 ?_; unfold qm_X13_makeCover_2
      rw [nI_1]
      refine w_leF (by omega) (by omega) (w_rdI ml61 rfl (by omega) ei (w_rdJ (i := 24 * x + i) ml64 gr_ix (by omega) rfl (w_wrJ (i := 24 * x + i) ml64 gr_ix (by omega) (w_rdI ml62 rfl (by omega) ej (w_rdJ (i := 24 * x + j) ml64 gr_ix (by omega) rfl (w_wrJ (i := 24 * x + j) ml64 gr_ix (by omega) (w_rdI ml63 rfl (by omega) ek (w_rdJ (i := 24 * x + k) ml64 gr_ix (by omega) rfl (w_wrJ (i := 24 * x + k) ml64 gr_ix (by omega) (ih (x + 1) _ (by omega) (fr_J2 (fr_J2 (fr_J2 hf (by unfold cvH; omega)) (by unfold cvH; omega)) (by unfold cvH; omega)) hI))))))))))
  have c1 : ∀ (d k : Nat) (y : ow_MS), k + d = 312 → fr cvH z y → arcI y c a → Tt (fun K t => q_X13_makeCover K t 1 (nI c) (nI k) 0 0 0 0 0 0 0 n y) Q := by
    intro d
    induction d with
    | zero =>
      intro k y hk hf hI
      refine u_X13_makeCover_1 ?_; unfold qm_X13_makeCover_1
      exact w_leT (a := 312) (by omega) (by omega) (c2 c 0 y (by omega) hf hI)
    | succ d ih =>
      intro k y hk hf hI
      refine u_X13_makeCover_1 ?_; unfold qm_X13_makeCover_1
      rw [nI_1]
      exact w_leF (a := 312) (by omega) (by omega) (w_wrJ ml64 rfl (by omega) (ih (k + 1) _ (by omega) (fr_J2 hf (by unfold cvH; omega)) hI))
  exact c1 312 0 z1 (by omega) f0 ⟨h58, hR⟩
theorem e_X13_coverOf {x1 : Int32} {z : ow_MS} {Q : ow_MS → Prop} (H : Tt (fun K k => q_X13_coverOf K k 0 x1 0 z) Q) : Te (fun K => qe_X13_coverOf K x1 z) Q := w_te H
theorem u_X13_coverOf_0 {x1 : Int32} {x2 : Int32} {z : ow_MS} {Q : ow_MS → Prop} (H : Tt (fun K k => qm_X13_coverOf_0 K (q_X13_coverOf K k) x1 x2 z) Q) : Tt (fun K k => q_X13_coverOf K k 0 x1 x2 z) Q := w_un (fun _ _ => rfl) H
theorem u_X13_coverOf_1 {x1 : Int32} {x2 : Int32} {z : ow_MS} {Q : ow_MS → Prop} (H : Tt (fun K k => qm_X13_coverOf_1 K (q_X13_coverOf K k) x1 x2 z) Q) : Tt (fun K k => q_X13_coverOf K k 1 x1 x2 z) Q := w_un (fun _ _ => rfl) H
theorem tp_coverOf {e : Nat} {A : rn_L} {sg : Nat → Bool} (h : gI X z) (he : e < 40) (hv : vRow z 12 (32 * e) A sg) : Te (fun K => qe_X13_coverOf K (nI e) z) (fun z1 => gI X z1) := by
  obtain ⟨_, _, _, ⟨T1, k1⟩, kC⟩ := h.2.2.2.2.1
  have hTl := hv.1.1
  refine e_X13_coverOf ?_
  refine u_X13_coverOf_0 ?_; unfold qm_X13_coverOf_0
  rw [show (32 : Int32) * nI e = nI (32 * e) from pk_mul 32 e]
  refine w_cs1 (tr_same (o := 32 * e) (p := 0) ml12 ml65 (by omega) (by omega) (by omega) (by omega) hv.1 k1) (fun a y e9 => ?_)
  cases e9
  refine w_if (fun _ => ?_) (fun _ => w_some h)
  refine w_cs0 (to_open pn1 he hv) (fun z2 ⟨o2, f2⟩ => w_cs0 (tp_makeCover pn1 o2) (fun z3 ⟨⟨cv, hcv, h67⟩, f3⟩ => ?_))
  have hf3 : fr (fun g => 1000 ≤ g ∨ 58 ≤ g ∧ g ≤ 64 ∨ 66 ≤ g ∧ g ≤ 72) z z3 := fr_tr (fr_mono (fun g hg => by omega) f2) (fr_mono (fun g hg => by unfold cvH at hg; omega) f3)
  have g3 : gI X z3 := by
    refine gI_cash hf3 (fun g hg => ?_) ?_ h
    · by_cases h67 : g = 67
      · exact Or.inl (by omega)
      · exact Or.inr (by unfold per; omega)
    · obtain ⟨⟨T2, k2⟩, ⟨T3, k3⟩, ⟨T4, k4⟩, ⟨T5, k5⟩, -⟩ := h.2.2.2.2.1
      exact ⟨⟨T2, rc_fr hf3 (by omega) k2⟩, ⟨T3, rc_fr hf3 (by omega) k3⟩, ⟨T4, rc_fr hf3 (by omega) k4⟩, ⟨T5, rc_fr hf3 (by omega) k5⟩, cv, hcv, h67⟩
  have lp2 : ∀ (dd i : Nat) (y : ow_MS), i + dd = 32 → fr (fun g => g = 65) z3 y → (∀ t, t < i → y.2.1 65 t = z3.2.1 12 (32 * e + t)) → Tt (fun K t => q_X13_coverOf K t 1 (nI e) (nI i) y) (fun z1 => gI X z1) := by
    intro dd
    induction dd with
    | zero =>
      intro i y hi hf ht
      refine u_X13_coverOf_1 ?_; unfold qm_X13_coverOf_1
      refine w_leT (a := 32) (by omega) (by omega) (w_some (gI_cash hf (fun g hg => Or.inl (Or.inr (Or.inr (Or.inr (Or.inl hg))))) ?_ g3))
      obtain ⟨⟨T2, k2⟩, ⟨T3, k3⟩, ⟨T4, k4⟩, -, cc, k5, k6⟩ := g3.2.2.2.2.1
      have hrow : rc_At z3 12 (32 * e) (tk sg A) := rc_fr hf3 (by omega) hv.1
      exact ⟨⟨T2, rc_fr hf (by decide) k2⟩, ⟨T3, rc_fr hf (by decide) k3⟩, ⟨T4, rc_fr hf (by decide) k4⟩, ⟨_, rc_cpy hrow (fun t h9 => ht t (by omega))⟩, cc, k5, by rw [(hf 67 (by decide)).1]; exact k6⟩
    | succ dd ih =>
      intro i y hi hf ht
      refine u_X13_coverOf_1 ?_; unfold qm_X13_coverOf_1
      rw [show (32 : Int32) * nI e = nI (32 * e) from pk_mul 32 e, nI_add, nI_1]
      refine w_leF (a := 32) (by omega) (by omega) (w_rdI ml12 rfl (by omega) rfl (w_wrI ml65 rfl (by omega) (ih (i + 1) _ (by omega) (fr_I2 hf rfl) (fun t h9 => ?_))))
      by_cases hti : t = i
      · rw [hti, po_usI_at, (hf 12 (by decide)).2.1]
      · exact rd_ne hti (ht t (by omega))
  exact lp2 32 0 z3 (by omega) fr_rf (fun t ht => absurd ht (by omega))
theorem u_X13_cover_1 {x1 : Int32} {x2 : Int32} {z : ow_MS} {Q : (Int32 × ow_MS) → Prop} (H : Tt (fun K k => qm_X13_cover_1 K (q_X13_cover K k) x1 x2 z) Q) : Tt (fun K k => q_X13_cover K k 1 x1 x2 z) Q := w_un (fun _ _ => rfl) H
theorem e_X13_cover {x1 : Int32} {x2 : Int32} {z : ow_MS} {Q : (Int32 × ow_MS) → Prop} (H : Tt (fun K k => q_X13_cover K k 0 x1 x2 z) Q) : Te (fun K => qe_X13_cover K x1 x2 z) Q := w_te H
theorem u_X13_cover_0 {x1 : Int32} {x2 : Int32} {z : ow_MS} {Q : (Int32 × ow_MS) → Prop} (H : Tt (fun K k => qm_X13_cover_0 K (q_X13_cover K k) x1 x2 z) Q) : Tt (fun K k => q_X13_cover K k 0 x1 x2 z) Q := w_un (fun _ _ => rfl) H
theorem tp_cover {d k : Int32} (h : gI X z) : Te (fun K => qe_X13_cover K d k z) (fun r => gI X r.2) := by
  have h1 := gI_1 (c := 0) h
  have c1 : ∀ {x1 x2 : Int32} {y : ow_MS}, gI X y → Tt (fun K i => q_X13_cover K i 1 x1 x2 y) (fun r => gI X r.2) := by
    intro x1 x2 y hy
    refine u_X13_cover_1 ?_; unfold qm_X13_cover_1
    exact w_some hy
  refine e_X13_cover ?_
  refine u_X13_cover_0 ?_; unfold qm_X13_cover_0
  refine w_wrF (w_has h1.2.1 (w_ifT rfl (w_fail h1)) (fun e A sg he hx hv hne => w_ifF (by decide) ?_))
  subst hx
  refine w_cs0 (tp_coverOf h1 he hv) (fun y gy => w_if (fun _ => c1 gy) (fun h0 => ?_))
  obtain ⟨_, _, _, _, cc, k5, k6⟩ := gy.2.2.2.2.1
  obtain ⟨a, ha, rfl⟩ := nI_of h0
  exact w_rdF k6 (w_lt ha (by omega) (fun h9 => w_rdJ ml66 rfl (by omega) rfl (w_some gy)) (fun _ => c1 gy))
theorem u_X13_colours_1 {x1 : Int32} {x2 : Int32} {x5 : Int32} {w3 : Int64} {z : ow_MS} {Q : (Int64 × ow_MS) → Prop} (H : Tt (fun K k => qm_X13_colours_1 K (q_X13_colours K k) x1 x2 x5 w3 z) Q) : Tt (fun K k => q_X13_colours K k 1 x1 x2 x5 w3 z) Q := w_un (fun _ _ => rfl) H
theorem e_X13_colours {x1 : Int32} {x2 : Int32} {z : ow_MS} {Q : (Int64 × ow_MS) → Prop} (H : Tt (fun K k => q_X13_colours K k 0 x1 x2 0 0 z) Q) : Te (fun K => qe_X13_colours K x1 x2 z) Q := w_te H
theorem u_X13_colours_0 {x1 : Int32} {x2 : Int32} {x5 : Int32} {w3 : Int64} {z : ow_MS} {Q : (Int64 × ow_MS) → Prop} (H : Tt (fun K k => qm_X13_colours_0 K (q_X13_colours K k) x1 x2 x5 w3 z) Q) : Tt (fun K k => q_X13_colours K k 0 x1 x2 x5 w3 z) Q := w_un (fun _ _ => rfl) H
theorem u_X13_colours_2 {x1 : Int32} {x2 : Int32} {x5 : Int32} {w3 : Int64} {z : ow_MS} {Q : (Int64 × ow_MS) → Prop} (H : Tt (fun K k => qm_X13_colours_2 K (q_X13_colours K k) x1 x2 x5 w3 z) Q) : Tt (fun K k => q_X13_colours K k 2 x1 x2 x5 w3 z) Q := w_un (fun _ _ => rfl) H
theorem tp_colours {d k : Int32} (h : gI X z) : Te (fun K => qe_X13_colours K d k z) (fun r => gI X r.2) := by
  have h1 := gI_1 (c := 0) h
  have c1 : ∀ {x1 x2 : Int32} {y : ow_MS}, gI X y → Tt (fun K i => q_X13_colours K i 1 x1 x2 0 0 y) (fun r => gI X r.2) := by
    intro x1 x2 y hy
    refine u_X13_colours_1 ?_; unfold qm_X13_colours_1
    refine w_cs1 tm_fails (fun a z1 e => ?_)
    cases e
    exact w_some (gI_1 hy)
  refine e_X13_colours ?_
  refine u_X13_colours_0 ?_; unfold qm_X13_colours_0
  refine w_wrF (w_has h1.2.1 (w_ifT rfl (w_cs1 tm_fails (fun a z1 e => ?_))) (fun e A sg he hx hv hne => w_ifF (by decide) (w_if (fun _ => c1 h1) (fun h0 => w_if (fun _ => ?_) (fun _ => c1 h1)))))
  · cases e
    exact w_some (gI_1 h1)
  subst hx
  refine w_cs0 (tp_coverOf h1 he hv) (fun y gy => ?_)
  obtain ⟨_, _, _, _, cc, k5, k6⟩ := gy.2.2.2.2.1
  have c2 : ∀ (dd i : Nat) (w : Int64), i + dd = cc → Tt (fun K t => q_X13_colours K t 2 (nI e) k (nI i) w y) (fun r => gI X r.2) := by
    intro dd
    induction dd with
    | zero =>
      intro i w hi
      refine u_X13_colours_2 ?_; unfold qm_X13_colours_2
      exact w_rdF k6 (w_leT (by omega) (by omega) (w_some gy))
    | succ dd ih =>
      intro i w hi
      refine u_X13_colours_2 ?_; unfold qm_X13_colours_2
      refine w_rdF k6 (w_leF (by omega) (by omega) (w_rdJ ml66 rfl (by omega) rfl (w_cs1 tp_gcd (fun a1 y1 e1 => ?_))))
      have e1 : y1 = y := e1
      subst e1
      rw [nI_1]
      exact ih (i + 1) _ (by omega)
  exact c2 cc 0 _ (by omega)
end COV
