/-! the class: the skein polynomial has an answer -/
section CSK
variable {vl : Nat → Nat} {y : ow_MS}
theorem w_crX {O : Type} {Q : O → Prop} {n j : Nat} {i : Int32} {E : Nat → Nat → Nat → Option O} (hi : i = nI j) (hj : j < n) (H : Tt (E j) Q) (hn : n < 2 ^ 31 := by omega) : Tt (fun K k => crX n i (fun v => E v K k)) Q := by
  have e : ∀ K k, crX n i (fun v => E v K k) = E j K k := fun K k => by
    unfold crX
    rw [hi, nI_clamp (by omega), if_neg (fun h9 => h9.elim (nI_pos (by omega)) (by omega))]
  obtain ⟨r, ⟨b, hb⟩, hr⟩ := H
  exact ⟨r, ⟨b, fun K k h1 h2 => (e K k).trans (hb K k h1 h2)⟩, hr⟩
theorem ch_24003 : ((cX vl).2 24003).2.1 = 13 := rfl
theorem ch_24004 : ((cX vl).2 24004).2.1 = 5289 := rfl
theorem ch_24002 : ((cX vl).2 24002).2.1 = 13 := rfl
theorem ch_choose {j : Nat} (hj : j < 24) : ((cX vl).2 (24000 + 15001 + j)).2.1 = 24 := by
  have key : ∀ j, j < 24 → dynL.contains (24000 + 15001 + j) = false ∧ (cX_f (24000 + 15001 + j)).2.1 = 24 := by decide +kernel
  obtain ⟨k1, k2⟩ := key j hj
  show (if dynL.contains (24000 + 15001 + j) = true then (0, vl (24000 + 15001 + j), []) else cX_f (24000 + 15001 + j)).2.1 = 24
  rw [if_neg (by rw [k1]; decide)]
  exact k2
/-- the place of a term, or none -/
def tIx (a b : Int64) (r : Int32) : Prop := (r = -1 ∨ ∃ k, k < 5289 ∧ r = nI k)
theorem ti_c {x w : Int64} (h1 : ¬ lg_cmp x 0 < 0) (h2 : ¬ 0 ≤ lg_cmp x 129) (h3 : ¬ lg_cmp w 0 < 0) (h4 : lg_cmp w 41 < 0) : ∃ i, i < 5289 ∧ (x * 41 + w).toInt32 = nI i := by
  obtain ⟨a, ha, rfl⟩ := pk_lOf (fun h => h1 ((lg_cmp_lt _ _).mpr h))
  obtain ⟨b, hb, rfl⟩ := pk_lOf (fun h => h3 ((lg_cmp_lt _ _).mpr h))
  have h6 : a < 129 := by
    rcases Nat.lt_or_ge a 129 with q | q
    · exact q
    · exact absurd ((lg_cmp_ge _ _).mpr (Int64.not_lt.mp (fun h => by have := (pk_lLT ha (by decide : 129 < 2 ^ 63)).mp h; omega))) h2
  have h7 : b < 41 := (pk_lLT hb (by decide : 41 < 2 ^ 63)).mp ((lg_cmp_lt _ _).mp h4)
  refine ⟨a * 41 + b, by omega, ?_⟩
  have key : ∀ (a : Fin 129) (b : Fin 41), (lN a.val * 41 + lN b.val).toInt32 = nI (a.val * 41 + b.val) := by decide +kernel
  exact key ⟨a, by omega⟩ ⟨b, h7⟩
theorem u_X8_twoIndex_1 {vl : Nat → Nat} {w0 : Int64} {w2 : Int64} {w4 : Int64} {w6 : Int64} {z : ow_MS} {Q : (Int32 × ow_MS) → Prop} (H : Tt (fun K k => cm_X8_twoIndex_1 vl K (c_X8_twoIndex vl K k) w0 w2 w4 w6 z) Q) : Tt (fun K k => c_X8_twoIndex vl K k 1 w0 w2 w4 w6 z) Q := w_un (fun _ _ => rfl) H
theorem e_X8_twoIndex {vl : Nat → Nat} {w0 : Int64} {w2 : Int64} {z : ow_MS} {Q : (Int32 × ow_MS) → Prop} (H : Tt (fun K k => c_X8_twoIndex vl K k 0 w0 w2 0 0 z) Q) : Te (fun K => ce_X8_twoIndex vl K w0 w2 z) Q := w_te H
theorem u_X8_twoIndex_0 {vl : Nat → Nat} {w0 : Int64} {w2 : Int64} {w4 : Int64} {w6 : Int64} {z : ow_MS} {Q : (Int32 × ow_MS) → Prop} (H : Tt (fun K k => cm_X8_twoIndex_0 vl K (c_X8_twoIndex vl K k) w0 w2 w4 w6 z) Q) : Tt (fun K k => c_X8_twoIndex vl K k 0 w0 w2 w4 w6 z) Q := w_un (fun _ _ => rfl) H
theorem tc_twoIndex {a b : Int64} : Te (fun K => ce_X8_twoIndex vl K a b y) (fun r => tIx a b r.1 ∧ r.2 = y) := by
  have c1 : ∀ a b c d : Int64, Tt (fun K t => c_X8_twoIndex vl K t 1 a b c d y) (fun r => tIx a b r.1 ∧ r.2 = y) := by
    intro a b c d
    refine u_X8_twoIndex_1 ?_; unfold cm_X8_twoIndex_1
    exact w_some ⟨Or.inl rfl, rfl⟩
  refine e_X8_twoIndex ?_
  refine u_X8_twoIndex_0 ?_; unfold cm_X8_twoIndex_0
  refine w_if (fun _ => c1 _ _ _ _) (fun a1 => w_if (fun _ => c1 _ _ _ _) (fun a2 => w_if (fun _ => c1 _ _ _ _) (fun a3 => w_if (fun a4 => ?_) (fun _ => c1 _ _ _ _))))
  obtain ⟨k, hk, e⟩ := ti_c a1 a2 a3 a4
  exact w_some ⟨Or.inr ⟨k, hk, e⟩, rfl⟩
def acP (g : Nat) : Prop := g = 24003 ∨ g = 24004
theorem u_X8_addCircles_2 {vl : Nat → Nat} {x1 : Int32} {x2 : Int32} {x3 : Int32} {x4 : Int32} {x5 : Int32} {x6 : Int32} {x7 : Int32} {r0 : Nat} {t0 : Int32} {t1 : Int32} {t2 : Int32} {t3 : Int32} {z : ow_MS} {Q : ow_MS → Prop} (H : Tt (fun K k => cm_X8_addCircles_2 vl K (c_X8_addCircles vl K k) x1 x2 x3 x4 x5 x6 x7 r0 t0 t1 t2 t3 z) Q) : Tt (fun K k => c_X8_addCircles vl K k 2 x1 x2 x3 x4 x5 x6 x7 r0 t0 t1 t2 t3 z) Q := w_un (fun _ _ => rfl) H
theorem u_X8_addCircles_4 {vl : Nat → Nat} {x1 : Int32} {x2 : Int32} {x3 : Int32} {x4 : Int32} {x5 : Int32} {x6 : Int32} {x7 : Int32} {r0 : Nat} {t0 : Int32} {t1 : Int32} {t2 : Int32} {t3 : Int32} {z : ow_MS} {Q : ow_MS → Prop} (H : Tt (fun K k => cm_X8_addCircles_4 vl K (c_X8_addCircles vl K k) x1 x2 x3 x4 x5 x6 x7 r0 t0 t1 t2 t3 z) Q) : Tt (fun K k => c_X8_addCircles vl K k 4 x1 x2 x3 x4 x5 x6 x7 r0 t0 t1 t2 t3 z) Q := w_un (fun _ _ => rfl) H
theorem u_X8_addCircles_3 {vl : Nat → Nat} {x1 : Int32} {x2 : Int32} {x3 : Int32} {x4 : Int32} {x5 : Int32} {x6 : Int32} {x7 : Int32} {r0 : Nat} {t0 : Int32} {t1 : Int32} {t2 : Int32} {t3 : Int32} {z : ow_MS} {Q : ow_MS → Prop} (H : Tt (fun K k => cm_X8_addCircles_3 vl K (c_X8_addCircles vl K k) x1 x2 x3 x4 x5 x6 x7 r0 t0 t1 t2 t3 z) Q) : Tt (fun K k => c_X8_addCircles vl K k 3 x1 x2 x3 x4 x5 x6 x7 r0 t0 t1 t2 t3 z) Q := w_un (fun _ _ => rfl) H
theorem u_X8_addCircles_1 {vl : Nat → Nat} {x1 : Int32} {x2 : Int32} {x3 : Int32} {x4 : Int32} {x5 : Int32} {x6 : Int32} {x7 : Int32} {r0 : Nat} {t0 : Int32} {t1 : Int32} {t2 : Int32} {t3 : Int32} {z : ow_MS} {Q : ow_MS → Prop} (H : Tt (fun K k => cm_X8_addCircles_1 vl K (c_X8_addCircles vl K k) x1 x2 x3 x4 x5 x6 x7 r0 t0 t1 t2 t3 z) Q) : Tt (fun K k => c_X8_addCircles vl K k 1 x1 x2 x3 x4 x5 x6 x7 r0 t0 t1 t2 t3 z) Q := w_un (fun _ _ => rfl) H
theorem e_X8_addCircles {vl : Nat → Nat} {r0 : Nat} {x1 : Int32} {x2 : Int32} {x3 : Int32} {x4 : Int32} {z : ow_MS} {Q : ow_MS → Prop} (H : Tt (fun K k => c_X8_addCircles vl K k 0 x1 x2 x3 x4 0 0 0 r0 0 0 0 0 z) Q) : Te (fun K => ce_X8_addCircles vl K r0 x1 x2 x3 x4 z) Q := w_te H
theorem u_X8_addCircles_0 {vl : Nat → Nat} {x1 : Int32} {x2 : Int32} {x3 : Int32} {x4 : Int32} {x5 : Int32} {x6 : Int32} {x7 : Int32} {r0 : Nat} {t0 : Int32} {t1 : Int32} {t2 : Int32} {t3 : Int32} {z : ow_MS} {Q : ow_MS → Prop} (H : Tt (fun K k => cm_X8_addCircles_0 vl K (c_X8_addCircles vl K k) x1 x2 x3 x4 x5 x6 x7 r0 t0 t1 t2 t3 z) Q) : Tt (fun K k => c_X8_addCircles vl K k 0 x1 x2 x3 x4 x5 x6 x7 r0 t0 t1 t2 t3 z) Q := w_un (fun _ _ => rfl) H
theorem tc_addCircles {q z : Nat} {f xp : Int32} (hq : q < 100) (hz : z ≤ 12) : Te (fun K => ce_X8_addCircles vl K 24000 (nI q) f xp (nI z) y) (fun y1 => fr acP y y1) := by
  let Q : ow_MS → Prop := fun y1 => fr acP y y1
  have c2 : ∀ (d j : Nat) (y1 : ow_MS), j + d = q → fr acP y y1 → Tt (fun K t => c_X8_addCircles vl K t 2 (nI q) f xp (nI z) (nI q - 1) (nI j) 0 24000 0 0 0 0 y1) Q := by
    intro d
    induction d with
    | zero =>
      intro j y1 hj hf
      have e : nI q - 1 < nI j := by
        rw [show j = q by omega]
        rcases Nat.eq_zero_or_pos q with h0 | h0
        · rw [h0]
          decide
        · rw [show nI q - 1 = nI (q - 1) from pk_sub (b := 1) h0]
          exact nI_lt (by omega) (by omega)
      refine u_X8_addCircles_2 ?_; unfold cm_X8_addCircles_2
      exact w_ifT e (w_some hf)
    | succ d ih =>
      intro j y1 hj hf
      have e5 : nI q - 1 = nI (q - 1) := pk_sub (b := 1) (by omega)
      have c4 : ∀ (x7 : Int32) (y2 : ow_MS), fr acP y y2 → Tt (fun K t => c_X8_addCircles vl K t 4 (nI q) f xp (nI z) (nI q - 1) (nI j) x7 24000 0 0 0 0 y2) Q := by
        intro x7 y2 hf2
        refine u_X8_addCircles_4 ?_; unfold cm_X8_addCircles_4
        rw [nI_1]
        exact ih (j + 1) y2 (by omega) hf2
      refine u_X8_addCircles_2 ?_; unfold cm_X8_addCircles_2
      rw [e5]
      rw [e5] at c4
      refine w_ltF (by omega) (by omega) (w_le (a := 24) (by omega) (by omega) (fun _ => w_some hf) (fun h24 => w_cs1 tc_twoIndex ?_))
      rintro v y2 ⟨h2, e2⟩
      dsimp only at h2 e2
      rw [e2]
      refine w_if (fun _ => c4 _ _ hf) (fun hv => ?_)
      rcases h2 with h2 | ⟨k, hk, rfl⟩
      · exact absurd h2 hv
      · have c3 : ∀ (t0 t1 t2 : Int32), Tt (fun K t => c_X8_addCircles vl K t 3 (nI q) f xp (nI z) (nI (q - 1)) (nI j) (nI k) 24000 t0 t1 t2 (nI k) y1) Q := by
          intro t0 t1 t2
          refine u_X8_addCircles_3 ?_; unfold cm_X8_addCircles_3
          exact w_ctI ch_24004 rfl hk (c4 _ _ (fr_I2 hf (Or.inr rfl)))
        exact w_crI ch_24004 rfl hk rfl (w_crX rfl (show q - 1 < 24 by omega) (w_crI (ch_choose (show q - 1 < 24 by omega)) rfl (show j < 24 by omega) rfl (w_if (fun _ => c3 _ _ _) (fun _ => c3 _ _ _))))
  have c1 : ∀ (y1 : ow_MS), fr acP y y1 → Tt (fun K t => c_X8_addCircles vl K t 1 (nI q) f xp (nI z) (nI q - 1) 0 0 24000 0 0 0 0 y1) Q := by
    intro y1 hf
    refine u_X8_addCircles_1 ?_; unfold cm_X8_addCircles_1
    exact c2 q 0 y1 (by omega) hf
  refine e_X8_addCircles ?_
  refine u_X8_addCircles_0 ?_; unfold cm_X8_addCircles_0
  rw [show uw_len (cX vl) y (24000 + 3) = 13 from rfl]
  exact w_if (fun _ => w_le (a := 13) (by omega) (by omega) (fun _ => c1 y fr_rf) (fun _ => w_crI ch_24003 rfl (show z < 13 by omega) rfl (w_ctI ch_24003 rfl (show z < 13 by omega) (c1 _ (fr_I (Or.inl rfl)))))) (fun _ => c1 y fr_rf)
end CSK
