/-! summit: the class climbs -/
section XS6B
variable {m : N5} {vl : Nat → Nat} {y : ow_MS} {h : Nat}
theorem sz_D10 : szD m ≤ 10 := (f_fiv m.2.1 m.2.2 (a := 0) (by have := m.2.1; omega)).2.2.2.2.2
theorem cq_ge {a b : Gn m} {k : Int} {t : Nat} (ht : szD m ≤ t) (h : cqS a k t b) : nrs a k := by
  obtain ⟨s, s1, s2, s3, s4, s5⟩ := h
  exact cq_end (b := s (szD m)) ⟨s, s1, fun j hj => s2 j (by omega), fun j hj => s3 j (by omega), rfl, fun j hj => s5 j (by omega)⟩
theorem dq_ge {a b : Gn m} {S : Int} {t : Nat} (ht : szD m ≤ t) (h : dqS a S t b) : nls a S := by
  obtain ⟨s, s1, s2, s3, s4, s5⟩ := h
  exact dq_end (b := s (szD m)) ⟨s, s1, fun j hj => s2 j (by omega), fun j hj => s3 j (by omega), rfl, fun j hj => s5 j (by omega)⟩
theorem cq_x {a b : Gn m} {k : Int} {t : Nat} (h : cqS a k t b) : ∃ x, b = cnj x a := by
  obtain ⟨s, s1, s2, s3, s4, s5⟩ := h
  obtain ⟨x, hx⟩ := s5 t (Nat.le_refl _)
  exact ⟨x, s4.symm.trans hx⟩
theorem dq_x {a b : Gn m} {S : Int} {t : Nat} (h : dqS a S t b) : ∃ x, b = cnj x a := by
  obtain ⟨s, s1, s2, s3, s4, s5⟩ := h
  obtain ⟨x, hx⟩ := s5 t (Nat.le_refl _)
  exact ⟨x, s4.symm.trans hx⟩
theorem isM_1 : isM (g1 m) (gD m 1) (g1 m) := ⟨gle_rf _, gle_1.mpr (gp_D 1), fun z h1 _ => h1⟩
theorem gF_n {k : Int} {h : okT m.1 []} : gF m k [] h = gD m k := by
  unfold gF
  rw [gL_nil, g1_r]
theorem cq_n {a : Gn m} {k : Int} {t : Nat} {h : okT m.1 []} (hq : cqS a k t (gF m k [] h)) : cqS a k (t + 1) (gF m k [] h) := by
  have e : cnj (g1 m) (gF m k [] h) = gF m k [] h := cnj_1 _
  have := cq_s (i := g1 m) hq (by rw [gF_n, gi_r]; exact isM_1) (by
    rw [e]
    obtain ⟨s, s1, s2, s3, s4, s5⟩ := hq
    rw [← s4]
    exact s3 t (Nat.le_refl _))
  rw [e] at this
  exact this
theorem dq_n {a : Gn m} {k : Int} {t : Nat} {h : okT m.1 []} (hq : dqS a k t (gF m k [] h)) : dqS a k (t + 1) (gF m k [] h) := by
  have e : gm (gD m 1) (gm (gF m k [] h) (gi (gD m 1))) = gF m k [] h := by
    rw [gF_n, ← gm_as, D_cm, gm_as, gi_r, g1_r]
  have := dq_s (i := gD m 1) hq (by rw [gF_n, gi_l, gi_l]; exact isM_1) (by
    rw [e]
    obtain ⟨s, s1, s2, s3, s4, s5⟩ := hq
    rw [← s4]
    exact s3 t (Nat.le_refl _))
  rw [e] at this
  exact this
def bdF9 (k : Int) (F : List Nat) : Prop := -16 ≤ k ∧ k + (F.length : Int) ≤ 16 ∧ F.length ≤ 16
theorem xc_climb {a : Gn m} {k0 : Int} {F0 : List Nat} (hh : sO h) (h0 : foC y (h + 1000) m k0 F0) (hb : bdF9 k0 F0) (hx : ∃ h x, gF m k0 F0 h = cnj x a) : Te (fun K => ce_X10_climb vl K h y) (fun y1 => (∃ k F, foC y1 (h + 1000) m k F ∧ bdF9 k F ∧ (∃ h x, gF m k F h = cnj x a) ∧ nrs a k ∧ nls a (k + (F.length : Int))) ∧ fr (foP (h + 1000)) y y1) := by
  let Q : ow_MS → Prop := fun y1 => (∃ k F, foC y1 (h + 1000) m k F ∧ bdF9 k F ∧ (∃ h x, gF m k F h = cnj x a) ∧ nrs a k ∧ nls a (k + (F.length : Int))) ∧ fr (foP (h + 1000)) y y1
  have s10 := sz_D10 (m := m)
  have c4 : ∀ (d i t : Nat) (k : Int) (F : List Nat) (hF : okT m.1 F) (z : ow_MS), i + d = 2000 → i + (30 - t) + 31 * F.length ≤ 2000 → t ≤ 30 → foC z (h + 1000) m k F → bdF9 k F → dqS a (k + (F.length : Int)) t (gF m k F hF) → nrs a k → fr (foP (h + 1000)) y z → Tt (fun K t' => c_X10_climb vl K t' 4 (nI t) (nI i) 0 h 0 z) Q := by
    intro d
    induction d with
    | zero =>
      intro i t k F hF z hi hm ht q1 q2 q3 q4 q5
      refine u_X10_climb_4 ?_; unfold cm_X10_climb_4
      exact w_leT (a := 2000) (by omega) (by omega) (w_some ⟨⟨k, F, q1, q2, ⟨hF, dq_x q3⟩, q4, dq_ge (by omega) q3⟩, q5⟩)
    | succ d ih =>
      intro i t k F hF z hi hm ht q1 q2 q3 q4 q5
      obtain ⟨b1, b2, b3⟩ := id q2
      obtain ⟨l3, -⟩ := fo_len q1.1
      refine u_X10_climb_4 ?_; unfold cm_X10_climb_4
      refine w_leF (a := 2000) (by omega) (by omega) (w_le (a := 30) (by omega) (by omega) (fun h9 => w_some ⟨⟨k, F, q1, q2, ⟨hF, dq_x q3⟩, q4, dq_ge (by omega) q3⟩, q5⟩) (fun h9 => w_rdF q1.1.2.1 (w_rdF l3 ?_)))
      rcases List.eq_nil_or_concat F with h8 | ⟨F1, c, h8⟩
      · subst h8
        refine w_cs0 (xc_dcy0 q1) ?_
        rintro z1 rfl
        refine w_rdF q1.1.2.1 (w_rdF l3 (w_ifT (by
          have e9 : (iI k + nI ([] : List Nat).length : Int32) = iI k := by
            show iI k + nI 0 = _
            rw [nI_iI, iI_add]
            show iI (k + 0) = iI k
            rw [Int.add_zero]
          rw [e9, iI_le (by omega) (by omega) (by omega) (by omega)]
          exact Int.le_refl _) ?_))
        refine u_X10_climb_5 ?_; unfold cm_X10_climb_5
        rw [nI_1, nI_1]
        refine ih (i + 1) (t + 1) k [] hF z1 (by omega) (by have : ([] : List Nat).length = 0 := rfl; omega) (by omega) q1 q2 ?_ q4 q5
        have e0 : k + (([] : List Nat).length : Int) = k := Int.add_zero k
        rw [e0] at q3 ⊢
        exact dq_n q3
      · rw [List.concat_eq_append] at h8
        subst h8
        have len1 : (F1 ++ [c]).length = F1.length + 1 := by rw [List.length_append]; rfl
        refine w_cs0 (xc_decycle (sO_f hh) q1) ?_
        rintro z1 ⟨⟨d2, F', f1, f2, f3, f4⟩, f5⟩
        obtain ⟨u1, u2, u3, u4⟩ := dcy_F (k := k) (h := hF) q1.2.1
        have e1 := F_eq (m := m) (k := k) (hT := u2) (hF := f2.1) f4
        rw [e1] at u4
        rw [len1] at hm b2 b3 q3 l3
        have hcx' : ∃ x, gF m (k + (d2 : Int)) F' f2.1 = cnj x a := by
          obtain ⟨x, hx⟩ := dq_x q3
          refine ⟨gm x (gi (gL m [c] u1)), ?_⟩
          rw [cnj_m, ← hx, ← u4]
          unfold cnj
          rw [gi_i]
        have j0 : d2 = 0 := by
          refine Classical.byContradiction (fun hne => ?_)
          obtain ⟨x, hx⟩ := hcx'
          refine q4 x ?_
          rw [← hx]
          exact (inf_F f2).mpr (by omega)
        subst j0
        have ek : k + ((0 : Nat) : Int) = k := Int.add_zero k
        rw [ek] at u4 f1 hcx'
        have q1' : foC z1 (h + 1000) m k F' := ⟨f1, f2, q1.2.2.1, q1.2.2.2⟩
        obtain ⟨l3', -⟩ := fo_len f1
        rw [len1]
        refine w_rdF f1.2.1 (w_rdF l3' (w_if (fun hle => ?_) (fun hgt => ?_)))
        · rw [nI_iI, nI_iI, iI_add, iI_add, iI_le (by omega) (by omega) (by omega) (by omega)] at hle
          have el : F'.length = F1.length + 1 := by omega
          refine u_X10_climb_5 ?_; unfold cm_X10_climb_5
          rw [nI_1, nI_1]
          refine ih (i + 1) (t + 1) k F' f2.1 z1 (by omega) (by omega) (by omega) q1' ⟨b1, by omega, by omega⟩ ?_ q4 (fr_tr q5 f5)
          rw [el, ← u4]
          refine dq_s q3 u3 ?_
          rw [u4]
          intro h7
          have := (sup_F f2).mp h7
          omega
        · rw [nI_iI, nI_iI, iI_add, iI_add, iI_le (by omega) (by omega) (by omega) (by omega)] at hgt
          refine u_X10_climb_5 ?_; unfold cm_X10_climb_5
          rw [nI_1]
          refine ih (i + 1) 0 k F' f2.1 z1 (by omega) (by omega) (by omega) q1' ⟨b1, by omega, by omega⟩ (dq_0 ((sup_F f2).mpr (Int.le_refl _)) (fun h7 => ?_) hcx') q4 (fr_tr q5 f5)
          have := (sup_F f2).mp h7
          omega
  have c3 : ∀ (k : Int) (F : List Nat) (hF : okT m.1 F) (z : ow_MS) (x x' : Int32), foC z (h + 1000) m k F → bdF9 k F → (∃ x, gF m k F hF = cnj x a) → nrs a k → fr (foP (h + 1000)) y z → Tt (fun K t => c_X10_climb vl K t 3 x x' 0 h 0 z) Q := by
    intro k F hF z x x' q1 q2 q3 q4 q5
    obtain ⟨b1, b2, b3⟩ := id q2
    refine u_X10_climb_3 ?_; unfold cm_X10_climb_3
    refine c4 2000 0 0 k F hF z (by omega) (by omega) (by omega) q1 q2 (dq_0 ((sup_F q1.2.1).mpr (Int.le_refl _)) (fun h7 => ?_) q3) q4 q5
    have := (sup_F q1.2.1).mp h7
    omega
  have c1 : ∀ (d i t : Nat) (k : Int) (F : List Nat) (hF : okT m.1 F) (z : ow_MS), i + d = 2000 → i + (30 - t) + 31 * (16 - k).toNat ≤ 2000 → t ≤ 30 → foC z (h + 1000) m k F → bdF9 k F → cqS a k t (gF m k F hF) → fr (foP (h + 1000)) y z → Tt (fun K t' => c_X10_climb vl K t' 1 (nI t) (nI i) 0 h 0 z) Q := by
    intro d
    induction d with
    | zero =>
      intro i t k F hF z hi hm ht q1 q2 q3 q5
      refine u_X10_climb_1 ?_; unfold cm_X10_climb_1
      exact w_leT (a := 2000) (by omega) (by omega) (c3 k F hF z _ _ q1 q2 (cq_x q3) (cq_ge (by omega) q3) q5)
    | succ d ih =>
      intro i t k F hF z hi hm ht q1 q2 q3 q5
      obtain ⟨b1, b2, b3⟩ := id q2
      refine u_X10_climb_1 ?_; unfold cm_X10_climb_1
      refine w_leF (a := 2000) (by omega) (by omega) (w_le (a := 30) (by omega) (by omega) (fun h9 => c3 k F hF z _ _ q1 q2 (cq_x q3) (cq_ge (by omega) q3) q5) (fun h9 => w_rdF q1.1.2.1 ?_))
      cases F with
      | nil =>
        refine w_cs0 (xc_cyc0 q1) ?_
        rintro z1 rfl
        refine w_rdF q1.1.2.1 (w_ifT (by rw [iI_le (by omega) (by omega) (by omega) (by omega)]; exact Int.le_refl _) ?_)
        refine u_X10_climb_2 ?_; unfold cm_X10_climb_2
        rw [nI_1, nI_1]
        exact ih (i + 1) (t + 1) k [] hF z1 (by omega) (by omega) (by omega) q1 q2 (cq_n q3) q5
      | cons f F1 =>
        rw [List.length_cons] at b2 b3
        refine w_cs0 (xc_cycle (sO_f hh) q1) ?_
        rintro z1 ⟨⟨d2, F', f1, f2, f3, f4⟩, f5⟩
        obtain ⟨u1, u2, u3, u4⟩ := cyc_F (k := k) (h := hF) q1.2.1
        have e1 := F_eq (m := m) (k := k) (hT := u2) (hF := f2.1) f4
        rw [e1] at u4
        have hcx' : ∃ x, gF m (k + (d2 : Int)) F' f2.1 = cnj x a := by
          obtain ⟨x, hx⟩ := cq_x q3
          refine ⟨gm x (gL m [tuG m.1 k f] u1), ?_⟩
          rw [cnj_m, ← hx, ← u4]
        have q1' : foC z1 (h + 1000) m (k + (d2 : Int)) F' := ⟨f1, f2, by omega, by omega⟩
        refine w_rdF f1.2.1 (w_if (fun hle => ?_) (fun hgt => ?_))
        · rw [iI_le (by omega) (by omega) (by omega) (by omega)] at hle
          have j0 : d2 = 0 := by omega
          subst j0
          have ek : k + ((0 : Nat) : Int) = k := Int.add_zero k
          rw [ek] at u4 q1'
          refine u_X10_climb_2 ?_; unfold cm_X10_climb_2
          rw [nI_1, nI_1]
          refine ih (i + 1) (t + 1) k F' f2.1 z1 (by omega) (by omega) (by omega) q1' ⟨b1, by omega, by omega⟩ ?_ (fr_tr q5 f5)
          rw [← u4]
          refine cq_s q3 u3 ?_
          rw [u4]
          intro h7
          have := (inf_F f2).mp h7
          omega
        · rw [iI_le (by omega) (by omega) (by omega) (by omega)] at hgt
          refine u_X10_climb_2 ?_; unfold cm_X10_climb_2
          rw [nI_1]
          refine ih (i + 1) 0 (k + (d2 : Int)) F' f2.1 z1 (by omega) (by omega) (by omega) q1' ⟨by omega, by omega, by omega⟩ (cq_0 ((inf_F f2).mpr (Int.le_refl _)) (fun h7 => ?_) hcx') (fr_tr q5 f5)
          have := (inf_F f2).mp h7
          omega
  obtain ⟨hF, hx⟩ := hx
  obtain ⟨b1, b2, b3⟩ := id hb
  refine e_X10_climb ?_
  refine u_X10_climb_0 ?_; unfold cm_X10_climb_0
  refine c1 2000 0 0 k0 F0 hF y (by omega) (by omega) (by omega) h0 hb (cq_0 ((inf_F h0.2.1).mpr (Int.le_refl _)) (fun h7 => ?_) hx) fr_rf
  have := (inf_F h0.2.1).mp h7
  omega
end XS6B
