/-! the class: braid, product, inverse -/
/-- the letters of a place: below n in number, not 0 -/
def wdB (y : ow_MS) (b n l : Nat) : Prop := ∀ i, i < l → ∃ a : Int, y.2.1 13 (16 * b + i) = iI a ∧ 1 ≤ a.natAbs ∧ a.natAbs < n
/-- the places of the braids -/
def brC (y : ow_MS) : Prop := ∀ b, b < 20 → ∃ n l, n ≤ 5 ∧ n ≠ 1 ∧ y.2.1 15 b = nI n ∧ (0 < n → l ≤ 16 ∧ y.2.1 14 b = nI l ∧ wdB y b n l)
theorem brC_E {y : ow_MS} (h : brC y) : brE y := by
  intro b hb
  obtain ⟨n, l, h1, h2, h3, h4⟩ := h b hb
  exact ⟨n, h1, h3⟩
theorem brC_fr {P : Nat → Prop} {y y1 : ow_MS} (hf : fr P y y1) (hP : ¬ P 13 ∧ ¬ P 14 ∧ ¬ P 15) (h : brC y) : brC y1 := by
  intro b hb
  obtain ⟨n, l, h1, h2, h3, h4⟩ := h b hb
  refine ⟨n, l, h1, h2, by rw [(hf 15 hP.2.2).2.1]; exact h3, fun h0 => ?_⟩
  obtain ⟨q1, q2, q3⟩ := h4 h0
  refine ⟨q1, by rw [(hf 14 hP.2.1).2.1]; exact q2, fun i hi => ?_⟩
  rw [(hf 13 hP.1).2.1]
  exact q3 i hi
theorem lt_c : ∀ k : Fin 9, vp_nar .byte (iI ((k.val : Int) - 4)).toInt8.toInt32 = iI ((k.val : Int) - 4) ∧ fits .byte (.int (iI ((k.val : Int) - 4))) = true ∧ -(iI ((k.val : Int) - 4)) = iI (4 - (k.val : Int)) := by decide +kernel
theorem lt_a {a : Int} (h : a.natAbs ≤ 4) : vp_nar .byte (iI a).toInt8.toInt32 = iI a ∧ fits .byte (.int (iI a)) = true ∧ -(iI a) = iI (-a) := by
  have h1 := lt_c ⟨(a + 4).toNat, by omega⟩
  have e : (((a + 4).toNat : Nat) : Int) - 4 = a := by omega
  have e2 : 4 - (((a + 4).toNat : Nat) : Int) = -a := by omega
  dsimp only at h1
  rw [e, e2] at h1
  exact h1
def bdP (g : Nat) : Prop := 13 ≤ g ∧ g ≤ 15 ∨ g = 11001
section CBR
variable {vl : Nat → Nat} {y : ow_MS} {x x' : Int32}
theorem ch_13 : ((cX vl).2 13).2.1 = 320 := rfl
theorem ch_14 : ((cX vl).2 14).2.1 = 20 := rfl
theorem ltr_of {v : Int32} {n : Nat} (hn : 2 ≤ n) (hn5 : n ≤ 5) (h0 : ¬ v < 0) (h1 : ¬ nI (n - 1) ≤ v) : ∃ s, s < n - 1 ∧ v = nI s := by
  obtain ⟨s, s31, rfl⟩ := nI_of h0
  refine ⟨s, ?_, rfl⟩
  apply Nat.lt_of_not_le
  exact fun h9 => h1 (nI_le h9 s31)
theorem u_X9_readBraid_1 {vl : Nat → Nat} {x1 : Int32} {x3 : Int32} {x4 : Int32} {x5 : Int32} {x6 : Int32} {r0 : Nat} {r2 : Nat} {z : ow_MS} {Q : (Int32 × ow_MS) → Prop} (H : Tt (fun K k => cm_X9_readBraid_1 vl K (c_X9_readBraid vl K k) x1 x3 x4 x5 x6 r0 r2 z) Q) : Tt (fun K k => c_X9_readBraid vl K k 1 x1 x3 x4 x5 x6 r0 r2 z) Q := w_un (fun _ _ => rfl) H
theorem u_X9_readBraid_3 {vl : Nat → Nat} {x1 : Int32} {x3 : Int32} {x4 : Int32} {x5 : Int32} {x6 : Int32} {r0 : Nat} {r2 : Nat} {z : ow_MS} {Q : (Int32 × ow_MS) → Prop} (H : Tt (fun K k => cm_X9_readBraid_3 vl K (c_X9_readBraid vl K k) x1 x3 x4 x5 x6 r0 r2 z) Q) : Tt (fun K k => c_X9_readBraid vl K k 3 x1 x3 x4 x5 x6 r0 r2 z) Q := w_un (fun _ _ => rfl) H
theorem u_X9_readBraid_2 {vl : Nat → Nat} {x1 : Int32} {x3 : Int32} {x4 : Int32} {x5 : Int32} {x6 : Int32} {r0 : Nat} {r2 : Nat} {z : ow_MS} {Q : (Int32 × ow_MS) → Prop} (H : Tt (fun K k => cm_X9_readBraid_2 vl K (c_X9_readBraid vl K k) x1 x3 x4 x5 x6 r0 r2 z) Q) : Tt (fun K k => c_X9_readBraid vl K k 2 x1 x3 x4 x5 x6 r0 r2 z) Q := w_un (fun _ _ => rfl) H
theorem e_X9_readBraid {vl : Nat → Nat} {r0 : Nat} {x1 : Int32} {r2 : Nat} {x3 : Int32} {z : ow_MS} {Q : (Int32 × ow_MS) → Prop} (H : Tt (fun K k => c_X9_readBraid vl K k 0 x1 x3 0 0 0 r0 r2 z) Q) : Te (fun K => ce_X9_readBraid vl K r0 x1 r2 x3 z) Q := w_te H
theorem u_X9_readBraid_0 {vl : Nat → Nat} {x1 : Int32} {x3 : Int32} {x4 : Int32} {x5 : Int32} {x6 : Int32} {r0 : Nat} {r2 : Nat} {z : ow_MS} {Q : (Int32 × ow_MS) → Prop} (H : Tt (fun K k => cm_X9_readBraid_0 vl K (c_X9_readBraid vl K k) x1 x3 x4 x5 x6 r0 r2 z) Q) : Tt (fun K k => c_X9_readBraid vl K k 0 x1 x3 x4 x5 x6 r0 r2 z) Q := w_un (fun _ _ => rfl) H
theorem tc_readBraid {t n d : Nat} (ht : y.1 11001 = nI t) (h400 : t ≤ 400) (hn : 2 ≤ n) (hn5 : n ≤ 5) (hd : d < 20) : Te (fun K => ce_X9_readBraid vl K 11000 (nI n) 13 (nI (16 * d)) y) (fun r => fr (fun g => g = 13) y r.2 ∧ (∀ k, k < 16 * d ∨ 16 * d + 16 ≤ k → r.2.2.1 13 k = y.2.1 13 k) ∧ (r.1 = -1 ∧ t ≤ 16 ∧ wdB r.2 d n t ∨ ∃ b, b ≤ 400 ∧ r.1 = nI b)) := by
  let Q : Int32 × ow_MS → Prop := fun r => fr (fun g => g = 13) y r.2 ∧ (∀ k, k < 16 * d ∨ 16 * d + 16 ≤ k → r.2.2.1 13 k = y.2.1 13 k) ∧ (r.1 = -1 ∧ t ≤ 16 ∧ wdB r.2 d n t ∨ ∃ b, b ≤ 400 ∧ r.1 = nI b)
  have c1 : ∀ (k i : Nat) (z : ow_MS), i + k = t → i ≤ 16 → fr (fun g => g = 13) y z → (∀ k, k < 16 * d ∨ 16 * d + 16 ≤ k → z.2.1 13 k = y.2.1 13 k) → wdB z d n i → Tt (fun K t => c_X9_readBraid vl K t 1 (nI n) (nI (16 * d)) (nI i) 0 0 11000 13 z) Q := by
    intro k
    induction k with
    | zero =>
      intro i z hi h16 hf hk hw
      have e : i = t := by omega
      subst e
      refine u_X9_readBraid_1 ?_; unfold cm_X9_readBraid_1
      exact w_rdF ((hf 11001 (by omega)).1.trans ht) (w_leT (by omega) (by omega) (w_some ⟨hf, hk, Or.inl ⟨rfl, h16, hw⟩⟩))
    | succ k ih =>
      intro i z hi h16 hf hk hw
      have c3 : ∀ (a : Int) (x5 x6 : Int32), 1 ≤ a.natAbs → a.natAbs < n → i < 16 → Tt (fun K t => c_X9_readBraid vl K t 3 (nI n) (nI (16 * d)) (nI i) x5 x6 11000 13 (usI z 13 (16 * d + i) (iI a))) Q := by
        intro a x5 x6 a1 a2 hi16
        refine u_X9_readBraid_3 ?_; unfold cm_X9_readBraid_3
        rw [nI_1]
        refine ih (i + 1) _ (by omega) (by omega) (fr_I2 hf rfl) (fun j hj => rd_ne (by omega) (hk j hj)) (fun j hj => ?_)
        by_cases e : j = i
        · rw [e]
          exact ⟨a, po_usI_at, a1, a2⟩
        · obtain ⟨a', q1, q2, q3⟩ := hw j (by omega)
          exact ⟨a', rd_ne (by omega) q1, q2, q3⟩
      have fault : Tt (fun _ _ => some (nI i, z)) Q := w_some ⟨hf, hk, Or.inr ⟨i, by omega, rfl⟩⟩
      have em1 : nI n - 1 = nI (n - 1) := pk_sub (b := 1) (by omega)
      have c2 : ∀ (x5 x6 : Int32), i < 16 → Tt (fun K t => c_X9_readBraid vl K t 2 (nI n) (nI (16 * d)) (nI i) x5 x6 11000 13 z) Q := by
        intro x5 x6 hi16
        refine u_X9_readBraid_2 ?_; unfold cm_X9_readBraid_2
        rw [em1, nI_add]
        refine w_if (fun _ => fault) (fun h0 => w_if (fun _ => fault) (fun h1 => ?_))
        obtain ⟨s, s1, rfl⟩ := ltr_of hn hn5 h0 h1
        have ea : -(nI s + 1) = iI (-((s : Int) + 1)) := by
          rw [nI_1, nI_iI, (lt_a (a := ((s + 1 : Nat) : Int)) (by omega)).2.2]
          congr 1
        rw [ea]
        refine w_ctB ch_13 rfl (show 16 * d + i < 320 by omega) ?_
        rw [(lt_a (a := -((s : Int) + 1)) (by omega)).1]
        exact c3 _ _ _ (by omega) (by omega) hi16
      refine u_X9_readBraid_1 ?_; unfold cm_X9_readBraid_1
      rw [em1, nI_add]
      refine w_rdF ((hf 11001 (by omega)).1.trans ht) (w_leF (by omega) (by omega) (w_crI ch_11002 rfl (show i < 400 by omega) rfl (w_crI ch_11002 rfl (show i < 400 by omega) rfl (w_lt (b := 16) (by omega) (by omega) (fun hi16 => w_if (fun _ => c2 _ _ hi16) (fun h0 => w_if (fun _ => c2 _ _ hi16) (fun h1 => ?_))) (fun _ => fault)))))
      obtain ⟨s, s1, es⟩ := ltr_of hn hn5 h0 h1
      rw [es]
      have ea : nI s + 1 = iI ((s : Int) + 1) := by
        rw [nI_1, nI_iI]
        congr 1
      rw [ea]
      refine w_ctB ch_13 rfl (show 16 * d + i < 320 by omega) ?_
      rw [(lt_a (a := (s : Int) + 1) (by omega)).1]
      exact c3 _ _ _ (by omega) (by omega) hi16
  refine e_X9_readBraid ?_
  refine u_X9_readBraid_0 ?_; unfold cm_X9_readBraid_0
  exact c1 t 0 y (by omega) (by omega) fr_rf (fun _ _ => rfl) (fun i hi => absurd hi (Nat.not_lt_zero _))
/-- a braid gets a place -/
theorem brC_put {z1 : ow_MS} {d n l : Nat} (hd : d < 20) (h : brC y) (hk : ∀ k, k < 16 * d ∨ 16 * d + 16 ≤ k → z1.2.1 13 k = y.2.1 13 k) (hk4 : ∀ k, k ≠ d → z1.2.1 14 k = y.2.1 14 k) (hk5 : ∀ k, k ≠ d → z1.2.1 15 k = y.2.1 15 k) (h5 : n ≤ 5 ∧ n ≠ 1) (e5 : z1.2.1 15 d = nI n) (h0 : 0 < n → l ≤ 16 ∧ z1.2.1 14 d = nI l ∧ wdB z1 d n l) : brC z1 := by
  intro b hb
  by_cases e : b = d
  · rw [e]
    exact ⟨n, l, h5.1, h5.2, e5, h0⟩
  · obtain ⟨n', l', q1, q2, q3, q4⟩ := h b hb
    refine ⟨n', l', q1, q2, by rw [hk5 b e]; exact q3, fun hn' => ?_⟩
    obtain ⟨r1, r2, r3⟩ := q4 hn'
    refine ⟨r1, by rw [hk4 b e]; exact r2, fun i hi => ?_⟩
    rw [hk (16 * b + i) (by omega)]
    exact r3 i hi
theorem e_X11_braid {vl : Nat → Nat} {r0 : Nat} {x1 : Int32} {z : ow_MS} {Q : (Nat × Int32 × ow_MS) → Prop} (H : Tt (fun K _ => cm_X11_braid_0 vl K x1 r0 z) Q) : Te (fun K => ce_X11_braid vl K r0 x1 z) Q := w_te0 H
theorem tc_braid (hB : brC y) (hT : gT y) : Te (fun K => ce_X11_braid vl K 0 x y) (fun r => brC r.2.2 ∧ gT r.2.2 ∧ fr bdP y r.2.2) := by
  obtain ⟨t, ht4, ht⟩ := id hT
  refine e_X11_braid ?_; unfold cm_X11_braid_0
  refine w_if (fun _ => w_some ⟨hB, hT, fr_rf⟩) (fun h2 => w_if (fun h5 => ?_) (fun _ => w_some ⟨hB, hT, fr_rf⟩))
  have h0 : ¬ x < 0 := fun h9 => h2 (Int32.lt_trans h9 (by decide))
  obtain ⟨n, n31, rfl⟩ := nI_of h0
  have hn5 : n ≤ 5 := (nI_leI n31 (by omega : 5 < 2 ^ 31)).mp h5
  have hn2 : 2 ≤ n := by
    apply Nat.le_of_not_lt
    exact fun h9 => h2 (nI_lt (b := 2) h9 (by omega))
  refine w_tc1 tc_freeBraid ?_ ?_
  · rintro v y1 ⟨h3, rfl⟩
    rcases h3 with ⟨d, hd, -, rfl, e0, -⟩ | h3
    · refine w_rdF ht ?_
      rw [show nI d * 16 = nI (16 * d) from by rw [show (16 : Int32) = nI 16 from rfl, pk_mul, Nat.mul_comm]]
      refine w_cs1 (tc_readBraid ht ht4 hn2 hn5 hd) ?_
      rintro w z ⟨f1, k1, e1⟩
      dsimp only at f1 k1 e1
      have f2 : fr bdP y1 (usF z (0 + 11000 + 1) 0) := fr_F2 (fr_mono (fun g hg => by rw [hg]; unfold bdP; omega) f1) (by unfold bdP; omega)
      have t2 : (usF z (0 + 11000 + 1) 0).1 11001 = nI 0 := po_usF_at
      have z4 : (usF z (0 + 11000 + 1) 0).2.1 14 = y1.2.1 14 := (f1 14 (by omega)).2.1
      have z5 : (usF z (0 + 11000 + 1) 0).2.1 15 = y1.2.1 15 := (f1 15 (by omega)).2.1
      refine w_wrF (w_if (fun ew => ?_) (fun _ => w_some ⟨?_, ⟨0, by omega, t2⟩, f2⟩))
      · rcases e1 with ⟨-, t16, hw⟩ | ⟨b, b1, b2⟩
        · refine w_ctI ch_14 rfl hd (w_ctI ch_15 rfl hd (w_some ⟨?_, ⟨0, by omega, t2⟩, fr_I2 (fr_I2 f2 (by unfold bdP; omega)) (by unfold bdP; omega)⟩))
          refine brC_put (n := n) (l := t) hd hB (fun k hk => rd_ot (by omega) (rd_ot (by omega) (k1 k hk))) (fun k hk => rd_ot (by omega) (rd_ne hk (congrFun z4 k))) (fun k hk => rd_ne hk (rd_ot (by omega) (congrFun z5 k))) ⟨hn5, by omega⟩ po_usI_at (fun _ => ⟨t16, rd_ot (by omega) po_usI_at, fun i hi => ?_⟩)
          obtain ⟨a, a1, a2, a3⟩ := hw i hi
          exact ⟨a, rd_ot (by omega) (rd_ot (by omega) a1), a2, a3⟩
        · rw [b2] at ew
          exact absurd ew (nI_nm1 (by omega))
      · refine brC_put (n := 0) (l := 0) hd hB k1 (fun k _ => congrFun z4 k) (fun k _ => congrFun z5 k) ⟨by omega, by omega⟩ (by rw [z5]; exact e0) (fun h9 => absurd h9 (by omega))
    · exact absurd (show (0 : Nat) = 3 from h3.1) (by decide)
  · rintro a v y1 ha ⟨h3, rfl⟩
    exact w_some ⟨hB, hT, fr_rf⟩
end CBR
