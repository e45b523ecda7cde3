/-! the class: Summit has an answer -/
/-- the two summits: their work form lies 1000 behind -/
def sO (h : Nat) : Prop := h = 48000 ∨ h = 50000
theorem sO_f {h : Nat} (hh : sO h) : fO (h + 1000) := by
  rcases hh with rfl | rfl
  · exact Or.inr (Or.inr (Or.inl rfl))
  · exact Or.inr (Or.inr (Or.inr rfl))
theorem sO_5 {vl : Nat → Nat} {h : Nat} (hh : sO h) : ((cX vl).2 (h + 5)).2.1 = 4020 := by
  rcases hh with rfl | rfl <;> rfl
theorem sO_6 {vl : Nat → Nat} {h : Nat} (hh : sO h) : ((cX vl).2 (h + 6)).2.1 = 201 := by
  rcases hh with rfl | rfl <;> rfl
theorem sO_8 {vl : Nat → Nat} {h : Nat} (hh : sO h) : ((cX vl).2 (h + 8)).2.1 = 24 := by
  rcases hh with rfl | rfl <;> rfl
theorem sO_9 {vl : Nat → Nat} {h : Nat} (hh : sO h) : ((cX vl).2 (h + 9)).2.1 = 24 := by
  rcases hh with rfl | rfl <;> rfl
theorem sO_10 {vl : Nat → Nat} {h : Nat} (hh : sO h) : ((cX vl).2 (h + 10)).2.1 = 24 := by
  rcases hh with rfl | rfl <;> rfl
/-- strands, length, size, order, how many simples -/
def suS (y : ow_MS) (h n l m : Nat) : Prop := y.1 (h + 3) = nI l ∧ y.1 (h + 4) = nI m ∧ l ≤ 24 ∧ m ≤ 201 ∧ (0 < m → l ≤ 20) ∧ (∀ k, k < m → ∃ j, j < m ∧ y.2.1 (h + 6) k = nI j) ∧ (∃ c, c ≤ 24 ∧ y.1 (h + 11) = nI c) ∧ foW y (h + 1000) n
def suP (h g : Nat) : Prop := h + 1 ≤ g ∧ g ≤ h + 11 ∨ h + 1001 ≤ g ∧ g ≤ h + 1006
section CSU
variable {vl : Nat → Nat} {y : ow_MS} {h n l m : Nat}
theorem m20 {d : Nat} : nI d * 20 = nI (20 * d) := by
  rw [show (20 : Int32) = nI 20 from rfl, pk_mul, Nat.mul_comm]
theorem u_X10_compare_1 {vl : Nat → Nat} {x2 : Int32} {x4 : Int32} {x5 : Int32} {r0 : Nat} {r1 : Nat} {r3 : Nat} {z : ow_MS} {Q : (Int32 × ow_MS) → Prop} (H : Tt (fun K k => cm_X10_compare_1 vl K (c_X10_compare vl K k) x2 x4 x5 r0 r1 r3 z) Q) : Tt (fun K k => c_X10_compare vl K k 1 x2 x4 x5 r0 r1 r3 z) Q := w_un (fun _ _ => rfl) H
theorem e_X10_compare {vl : Nat → Nat} {r0 : Nat} {r1 : Nat} {x2 : Int32} {r3 : Nat} {x4 : Int32} {z : ow_MS} {Q : (Int32 × ow_MS) → Prop} (H : Tt (fun K k => c_X10_compare vl K k 0 x2 x4 0 r0 r1 r3 z) Q) : Te (fun K => ce_X10_compare vl K r0 r1 x2 r3 x4 z) Q := w_te H
theorem u_X10_compare_0 {vl : Nat → Nat} {x2 : Int32} {x4 : Int32} {x5 : Int32} {r0 : Nat} {r1 : Nat} {r3 : Nat} {z : ow_MS} {Q : (Int32 × ow_MS) → Prop} (H : Tt (fun K k => cm_X10_compare_0 vl K (c_X10_compare vl K k) x2 x4 x5 r0 r1 r3 z) Q) : Tt (fun K k => c_X10_compare vl K k 0 x2 x4 x5 r0 r1 r3 z) Q := w_un (fun _ _ => rfl) H
theorem tc_compareS {r1 r3 a b A B : Nat} (h3 : y.1 (h + 3) = nI l) (hl : l ≤ 24) (L1 : ((cX vl).2 r1).2.1 = A) (L3 : ((cX vl).2 r3).2.1 = B) (ha : a + l ≤ A) (hb : b + l ≤ B) (hA : A < 2 ^ 31) (hB : B < 2 ^ 31) : Te (fun K => ce_X10_compare vl K h r1 (nI a) r3 (nI b) y) (fun r => (r.1 = 0 ∨ r.1 = 1 ∨ r.1 = -1) ∧ r.2 = y) := by
  let Q : Int32 × ow_MS → Prop := fun r => (r.1 = 0 ∨ r.1 = 1 ∨ r.1 = -1) ∧ r.2 = y
  have c1 : ∀ (d j : Nat), j + d = l → Tt (fun K t => c_X10_compare vl K t 1 (nI a) (nI b) (nI j) h r1 r3 y) Q := by
    intro d
    induction d with
    | zero =>
      intro j hj
      refine u_X10_compare_1 ?_; unfold cm_X10_compare_1
      exact w_rdF h3 (w_leT (by omega) (by omega) (w_some ⟨Or.inl rfl, rfl⟩))
    | succ d ih =>
      intro j hj
      refine u_X10_compare_1 ?_; unfold cm_X10_compare_1
      rw [nI_add, nI_add, nI_1]
      exact w_rdF h3 (w_leF (by omega) (by omega) (w_crI L1 rfl (show a + j < A by omega) rfl (w_crI L3 rfl (show b + j < B by omega) rfl (w_if (fun _ => ih (j + 1) (by omega)) (fun _ => w_crI L1 rfl (show a + j < A by omega) rfl (w_crI L3 rfl (show b + j < B by omega) rfl (w_if (fun _ => w_some ⟨Or.inr (Or.inl rfl), rfl⟩) (fun _ => w_some ⟨Or.inr (Or.inr rfl), rfl⟩))))))))
  refine e_X10_compare ?_
  refine u_X10_compare_0 ?_; unfold cm_X10_compare_0
  exact c1 l 0 (by omega)
theorem u_X10_add_3 {vl : Nat → Nat} {x1 : Int32} {x2 : Int32} {x3 : Int32} {x4 : Int32} {x5 : Int32} {r0 : Nat} {z : ow_MS} {Q : ow_MS → Prop} (H : Tt (fun K k => cm_X10_add_3 vl K (c_X10_add vl K k) x1 x2 x3 x4 x5 r0 z) Q) : Tt (fun K k => c_X10_add vl K k 3 x1 x2 x3 x4 x5 r0 z) Q := w_un (fun _ _ => rfl) H
theorem u_X10_add_1 {vl : Nat → Nat} {x1 : Int32} {x2 : Int32} {x3 : Int32} {x4 : Int32} {x5 : Int32} {r0 : Nat} {z : ow_MS} {Q : ow_MS → Prop} (H : Tt (fun K k => cm_X10_add_1 vl K (c_X10_add vl K k) x1 x2 x3 x4 x5 r0 z) Q) : Tt (fun K k => c_X10_add vl K k 1 x1 x2 x3 x4 x5 r0 z) Q := w_un (fun _ _ => rfl) H
theorem u_X10_add_2 {vl : Nat → Nat} {x1 : Int32} {x2 : Int32} {x3 : Int32} {x4 : Int32} {x5 : Int32} {r0 : Nat} {z : ow_MS} {Q : ow_MS → Prop} (H : Tt (fun K k => cm_X10_add_2 vl K (c_X10_add vl K k) x1 x2 x3 x4 x5 r0 z) Q) : Tt (fun K k => c_X10_add vl K k 2 x1 x2 x3 x4 x5 r0 z) Q := w_un (fun _ _ => rfl) H
theorem e_X10_add {vl : Nat → Nat} {r0 : Nat} {z : ow_MS} {Q : ow_MS → Prop} (H : Tt (fun K k => c_X10_add vl K k 0 0 0 0 0 0 r0 z) Q) : Te (fun K => ce_X10_add vl K r0 z) Q := w_te H
theorem u_X10_add_0 {vl : Nat → Nat} {x1 : Int32} {x2 : Int32} {x3 : Int32} {x4 : Int32} {x5 : Int32} {r0 : Nat} {z : ow_MS} {Q : ow_MS → Prop} (H : Tt (fun K k => cm_X10_add_0 vl K (c_X10_add vl K k) x1 x2 x3 x4 x5 r0 z) Q) : Tt (fun K k => c_X10_add vl K k 0 x1 x2 x3 x4 x5 r0 z) Q := w_un (fun _ _ => rfl) H
theorem tc_addS (hh : sO h) (h0 : suS y h n l m) : Te (fun K => ce_X10_add vl K h y) (fun y1 => (∃ m', m ≤ m' ∧ suS y1 h n l m') ∧ fr (fun g => h + 4 ≤ g ∧ g ≤ h + 6) y y1) := by
  obtain ⟨h3, h4, l24, m201, hlm, hor, hc, hf⟩ := id h0
  let Q : ow_MS → Prop := fun y1 => (∃ m', m ≤ m' ∧ suS y1 h n l m') ∧ fr (fun g => h + 4 ≤ g ∧ g ≤ h + 6) y y1
  have same : Tt (fun _ _ => some y) Q := w_some ⟨⟨m, Nat.le_refl _, h0⟩, fr_rf⟩
  have c3 : ∀ (a : Nat) (x2 x3 : Int32), a ≤ m → Tt (fun K t => c_X10_add vl K t 3 (nI a) x2 x3 0 0 h y) Q := by
    intro a x2 x3 ha
    refine u_X10_add_3 ?_; unfold cm_X10_add_3
    refine w_rdF h4 (w_lt (a := 200) (by omega) (by omega) (fun _ => same) (fun h200 => w_rdF h3 (w_le (b := 20) (by omega) (by omega) (fun h20 => w_rdF h4 (w_rdF h3 ?_)) (fun _ => same))))
    rw [m20]
    refine w_cpI (a := 0) (b := 20 * m) (n := l) (fO_4 (sO_f hh)) (sO_5 hh) rfl rfl rfl (by omega) (by omega) (w_rdF (x := nI m) h4 ?_)
    rw [show nI m - nI a = nI (m - a) from pk_sub ha, nI_1]
    refine w_cpI (a := a) (b := a + 1) (n := m - a) (sO_6 hh) (sO_6 hh) rfl rfl rfl (by omega) (by omega) (w_rdF (x := nI m) h4 (w_ctI (sO_6 hh) rfl (show a < 201 by omega) (w_rdF (x := nI m) h4 (w_wrF ?_))))
    rw [nI_1]
    refine w_some ⟨⟨m + 1, by omega, ?_⟩, fr_F2 (fr_I2 (fr_R2 (fr_R2 fr_rf (by omega)) (by omega)) (by omega)) (by omega)⟩
    refine ⟨rf_ot (by omega) h3, po_usF_at, l24, by omega, fun _ => h20, fun k hk => ?_, ?_, ?_⟩
    · show ∃ j, j < m + 1 ∧ (usI (usR (usR y (h + 5) (va_cpy (y.2.1 (h + 1000 + 4)) (y.2.1 (h + 5)) 0 (20 * m) l)) (h + 6) (va_cpy ((usR y (h + 5) (va_cpy (y.2.1 (h + 1000 + 4)) (y.2.1 (h + 5)) 0 (20 * m) l)).2.1 (h + 6)) ((usR y (h + 5) (va_cpy (y.2.1 (h + 1000 + 4)) (y.2.1 (h + 5)) 0 (20 * m) l)).2.1 (h + 6)) a (a + 1) (m - a))) (h + 6) a (nI m)).2.1 (h + 6) k = nI j
      have e6 : (usR y (h + 5) (va_cpy (y.2.1 (h + 1000 + 4)) (y.2.1 (h + 5)) 0 (20 * m) l)).2.1 (h + 6) = y.2.1 (h + 6) := usR_ot (by omega)
      rw [e6]
      by_cases ek : k = a
      · rw [ek]
        exact ⟨m, by omega, po_usI_at⟩
      · by_cases ek2 : k < a
        · obtain ⟨j, j1, j2⟩ := hor k (by omega)
          refine ⟨j, by omega, rd_ne ek ?_⟩
          rw [usR_at, pk_cpy_out (by omega)]
          exact j2
        · obtain ⟨j, j1, j2⟩ := hor (k - 1) (by omega)
          refine ⟨j, by omega, rd_ne ek ?_⟩
          rw [usR_at, pk_cpy_in (by omega) (by omega), show a + (k - (a + 1)) = k - 1 by omega]
          exact j2
    · obtain ⟨c, c1, c2⟩ := hc
      exact ⟨c, c1, rf_ot (by omega) c2⟩
    · obtain ⟨f1, q, f2, f3⟩ := hf
      exact ⟨rf_ot (by omega) f1, q, f2, rf_ot (by omega) f3⟩
  have c1 : ∀ (d i a b : Nat), i + d = 16 → a ≤ b → b ≤ m → Tt (fun K t => c_X10_add vl K t 1 (nI a) (nI b) (nI i) 0 0 h y) Q := by
    intro d
    induction d with
    | zero =>
      intro i a b hi hab hbm
      refine u_X10_add_1 ?_; unfold cm_X10_add_1
      exact w_leT (a := 16) (by omega) (by omega) (c3 a _ _ (by omega))
    | succ d ih =>
      intro i a b hi hab hbm
      refine u_X10_add_1 ?_; unfold cm_X10_add_1
      rw [nI_add, ushr1 (show a + b < 2 ^ 31 by omega)]
      refine w_leF (a := 16) (by omega) (by omega) (w_le (by omega) (by omega) (fun _ => c3 a _ _ (by omega)) (fun hlt => ?_))
      obtain ⟨j, j1, j2⟩ := hor ((a + b) / 2) (by omega)
      have hl20 := hlm (by omega)
      refine w_crI (sO_6 hh) rfl (show (a + b) / 2 < 201 by omega) j2 ?_
      rw [m20]
      refine w_cs1 (tc_compareS (a := 20 * j) (b := 0) h3 l24 (sO_5 hh) (fO_4 (sO_f hh)) (by omega) (by omega) (by omega) (by omega)) ?_
      rintro v z ⟨-, e2⟩
      dsimp only at e2
      rw [e2, nI_1]
      refine w_if (fun _ => same) (fun _ => w_if (fun _ => ?_) (fun _ => ?_))
      · refine u_X10_add_2 ?_; unfold cm_X10_add_2
        rw [nI_1]
        exact ih (i + 1) a ((a + b) / 2) (by omega) (by omega) (by omega)
      · refine u_X10_add_2 ?_; unfold cm_X10_add_2
        rw [nI_1]
        exact ih (i + 1) ((a + b) / 2 + 1) b (by omega) (by omega) (by omega)
  refine e_X10_add ?_
  refine u_X10_add_0 ?_; unfold cm_X10_add_0
  exact w_rdF h4 (c1 16 0 0 m (by omega) (by omega) (by omega))
theorem u_X10_goesOn_1 {vl : Nat → Nat} {x1 : Int32} {x2 : Int32} {x3 : Int32} {r0 : Nat} {z : ow_MS} {Q : (Int32 × ow_MS) → Prop} (H : Tt (fun K k => cm_X10_goesOn_1 vl K (c_X10_goesOn vl K k) x1 x2 x3 r0 z) Q) : Tt (fun K k => c_X10_goesOn vl K k 1 x1 x2 x3 r0 z) Q := w_un (fun _ _ => rfl) H
theorem e_X10_goesOn {vl : Nat → Nat} {r0 : Nat} {x1 : Int32} {x2 : Int32} {z : ow_MS} {Q : (Int32 × ow_MS) → Prop} (H : Tt (fun K k => c_X10_goesOn vl K k 0 x1 x2 0 r0 z) Q) : Te (fun K => ce_X10_goesOn vl K r0 x1 x2 z) Q := w_te H
theorem u_X10_goesOn_0 {vl : Nat → Nat} {x1 : Int32} {x2 : Int32} {x3 : Int32} {r0 : Nat} {z : ow_MS} {Q : (Int32 × ow_MS) → Prop} (H : Tt (fun K k => cm_X10_goesOn_0 vl K (c_X10_goesOn vl K k) x1 x2 x3 r0 z) Q) : Tt (fun K k => c_X10_goesOn vl K k 0 x1 x2 x3 r0 z) Q := w_un (fun _ _ => rfl) H
theorem tc_goesOn {s t : Nat} (hh : sO h) (hs : s < 24) (ht : t ≤ 24) : Te (fun K => ce_X10_goesOn vl K h (nI s) (nI t) y) (fun r => (r.1 = 0 ∨ r.1 = 1) ∧ r.2 = y) := by
  have c1 : ∀ (d j : Nat), j + d = t → Tt (fun K k => c_X10_goesOn vl K k 1 (nI s) (nI t) (nI j) h y) (fun r => (r.1 = 0 ∨ r.1 = 1) ∧ r.2 = y) := by
    intro d
    induction d with
    | zero =>
      intro j hj
      refine u_X10_goesOn_1 ?_; unfold cm_X10_goesOn_1
      exact w_leT (by omega) (by omega) (w_okZ (Or.inl rfl) (w_some ⟨Or.inl rfl, rfl⟩))
    | succ d ih =>
      intro j hj
      refine u_X10_goesOn_1 ?_; unfold cm_X10_goesOn_1
      rw [nI_1]
      exact w_leF (by omega) (by omega) (w_crI (sO_10 hh) rfl (show j < 24 by omega) rfl (w_crI (sO_9 hh) rfl hs rfl (w_if (fun _ => w_okZ (Or.inr rfl) (w_some ⟨Or.inr rfl, rfl⟩)) (fun _ => ih (j + 1) (by omega)))))
  refine e_X10_goesOn ?_
  refine u_X10_goesOn_0 ?_; unfold cm_X10_goesOn_0
  exact c1 t 0 (by omega)
end CSU
