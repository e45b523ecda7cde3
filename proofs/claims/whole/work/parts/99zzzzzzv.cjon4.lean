/-! the class: the number of J at a power -/
def smI (f : Nat → Int32) : Nat → Int32
  | 0 => 0
  | n + 1 => smI f n + f n
def jFt (c : Nat) (w2 : Int64) (o m : Nat) : Int64 := (((nI c - (2 * nI o)) + (2 * (nI (m + 1) - 1))).toInt64) - w2
/-- what the states with so many ones and m + 1 loops give -/
def jTm (c : Nat) (w2 : Int64) (R : Nat → Int32) (C : Nat → Nat → Int32) (o m : Nat) : Int32 :=
  if lg_cmp (jFt c w2 o m - jFt c w2 o m / 4 * 4) 0 = 0 ∧ ¬ lg_cmp (jFt c w2 o m) 0 < 0 ∧ ¬ 0 < lg_cmp (jFt c w2 o m) ((4 * (nI (m + 1) - 1)).toInt64) then (if ((nI (m + 1) - 1) &&& 1) = 0 then R (24 * o + (m + 1)) * C m ((jFt c w2 o m / 4).toInt32.toNatClampNeg) else -(R (24 * o + (m + 1)) * C m ((jFt c w2 o m / 4).toInt32.toNatClampNeg))) else 0
theorem q4_c : ∀ a : Fin 93, (lN a.val / 4).toInt32 = nI (a.val / 4) := by decide +kernel
theorem jFt_ix {c m : Nat} {ft : Int64} (hm : m < 23) (h1 : ¬ lg_cmp ft 0 < 0) (h2 : ¬ 0 < lg_cmp ft ((4 * (nI (m + 1) - 1)).toInt64)) : ∃ i, i < 24 ∧ (ft / 4).toInt32 = nI i := by
  obtain ⟨a, ha, rfl⟩ := pk_lOf (fun h => h1 ((lg_cmp_lt _ _).mpr h))
  have e : (4 * (nI (m + 1) - 1)).toInt64 = lN (4 * m) := by
    rw [show nI (m + 1) - 1 = nI m from pk_sub (a := m + 1) (b := 1) (by omega), show (4 : Int32) * nI m = nI (4 * m) from pk_mul 4 m, nI_l (by omega)]
  rw [e] at h2
  have h6 : a ≤ 4 * m := by
    rcases Nat.lt_or_ge (4 * m) a with q | q
    · exact absurd ((lg_cmp_gt _ _).mpr ((pk_lLT (by omega) ha).mpr q)) h2
    · exact q
  have := q4_c ⟨a, by omega⟩
  exact ⟨a / 4, by omega, this⟩
section CJA
variable {vl : Nat → Nat} {y : ow_MS}
def jAt (y : ow_MS) (c : Nat) (x : Int32) : Int32 := smI (fun o => smI (jTm c (x.toInt64 + ((3 * y.1 24009).toInt64)) (y.2.1 24006) (fun m i => y.2.1 (39001 + m) i) o) 23) (c + 1)
theorem u_X8_jonesAt_1 {vl : Nat → Nat} {x1 : Int32} {x4 : Int32} {x5 : Int32} {x6 : Int32} {x7 : Int32} {x10 : Int32} {w2 : Int64} {w8 : Int64} {r0 : Nat} {t0 : Int32} {t1 : Int32} {z : ow_MS} {Q : (Int32 × ow_MS) → Prop} (H : Tt (fun K k => cm_X8_jonesAt_1 vl K (c_X8_jonesAt vl K k) x1 x4 x5 x6 x7 x10 w2 w8 r0 t0 t1 z) Q) : Tt (fun K k => c_X8_jonesAt vl K k 1 x1 x4 x5 x6 x7 x10 w2 w8 r0 t0 t1 z) Q := w_un (fun _ _ => rfl) H
theorem u_X8_jonesAt_2 {vl : Nat → Nat} {x1 : Int32} {x4 : Int32} {x5 : Int32} {x6 : Int32} {x7 : Int32} {x10 : Int32} {w2 : Int64} {w8 : Int64} {r0 : Nat} {t0 : Int32} {t1 : Int32} {z : ow_MS} {Q : (Int32 × ow_MS) → Prop} (H : Tt (fun K k => cm_X8_jonesAt_2 vl K (c_X8_jonesAt vl K k) x1 x4 x5 x6 x7 x10 w2 w8 r0 t0 t1 z) Q) : Tt (fun K k => c_X8_jonesAt vl K k 2 x1 x4 x5 x6 x7 x10 w2 w8 r0 t0 t1 z) Q := w_un (fun _ _ => rfl) H
theorem u_X8_jonesAt_4 {vl : Nat → Nat} {x1 : Int32} {x4 : Int32} {x5 : Int32} {x6 : Int32} {x7 : Int32} {x10 : Int32} {w2 : Int64} {w8 : Int64} {r0 : Nat} {t0 : Int32} {t1 : Int32} {z : ow_MS} {Q : (Int32 × ow_MS) → Prop} (H : Tt (fun K k => cm_X8_jonesAt_4 vl K (c_X8_jonesAt vl K k) x1 x4 x5 x6 x7 x10 w2 w8 r0 t0 t1 z) Q) : Tt (fun K k => c_X8_jonesAt vl K k 4 x1 x4 x5 x6 x7 x10 w2 w8 r0 t0 t1 z) Q := w_un (fun _ _ => rfl) H
theorem u_X8_jonesAt_3 {vl : Nat → Nat} {x1 : Int32} {x4 : Int32} {x5 : Int32} {x6 : Int32} {x7 : Int32} {x10 : Int32} {w2 : Int64} {w8 : Int64} {r0 : Nat} {t0 : Int32} {t1 : Int32} {z : ow_MS} {Q : (Int32 × ow_MS) → Prop} (H : Tt (fun K k => cm_X8_jonesAt_3 vl K (c_X8_jonesAt vl K k) x1 x4 x5 x6 x7 x10 w2 w8 r0 t0 t1 z) Q) : Tt (fun K k => c_X8_jonesAt vl K k 3 x1 x4 x5 x6 x7 x10 w2 w8 r0 t0 t1 z) Q := w_un (fun _ _ => rfl) H
theorem e_X8_jonesAt {vl : Nat → Nat} {r0 : Nat} {x1 : Int32} {z : ow_MS} {Q : (Int32 × ow_MS) → Prop} (H : Tt (fun K k => c_X8_jonesAt vl K k 0 x1 0 0 0 0 0 0 0 r0 0 0 z) Q) : Te (fun K => ce_X8_jonesAt vl K r0 x1 z) Q := w_te H
theorem u_X8_jonesAt_0 {vl : Nat → Nat} {x1 : Int32} {x4 : Int32} {x5 : Int32} {x6 : Int32} {x7 : Int32} {x10 : Int32} {w2 : Int64} {w8 : Int64} {r0 : Nat} {t0 : Int32} {t1 : Int32} {z : ow_MS} {Q : (Int32 × ow_MS) → Prop} (H : Tt (fun K k => cm_X8_jonesAt_0 vl K (c_X8_jonesAt vl K k) x1 x4 x5 x6 x7 x10 w2 w8 r0 t0 t1 z) Q) : Tt (fun K k => c_X8_jonesAt vl K k 0 x1 x4 x5 x6 x7 x10 w2 w8 r0 t0 t1 z) Q := w_un (fun _ _ => rfl) H
theorem tc_jonesAt {c : Nat} {x : Int32} (hc : c ≤ 12) (h8 : y.1 40008 = nI c) : Te (fun K => ce_X8_jonesAt vl K 24000 x y) (fun r => r.1 = (if (y.1 24009 &&& 1) = 0 then jAt y c x else - jAt y c x) ∧ r.2 = y) := by
  let Q : Int32 × ow_MS → Prop := fun r => r.1 = (if (y.1 24009 &&& 1) = 0 then jAt y c x else - jAt y c x) ∧ r.2 = y
  let w2 : Int64 := x.toInt64 + ((3 * y.1 24009).toInt64)
  let C : Nat → Nat → Int32 := fun m i => y.2.1 (39001 + m) i
  let tm : Nat → Nat → Int32 := jTm c w2 (y.2.1 24006) C
  let ou : Nat → Int32 := smI (fun o => smI (tm o) 23)
  have c1 : ∀ (d o : Nat), o + d = c + 1 → Tt (fun K t => c_X8_jonesAt vl K t 1 x (ou o) (nI o) 0 0 0 w2 0 24000 0 0 y) Q := by
    intro d
    induction d with
    | zero =>
      intro o ho
      have ho : o = c + 1 := by omega
      subst ho
      refine u_X8_jonesAt_1 ?_; unfold cm_X8_jonesAt_1
      refine w_rdF h8 (w_ltT (by omega) (by omega) (w_rdF rfl (w_if (fun h9 => w_some ⟨?_, rfl⟩) (fun h9 => w_some ⟨?_, rfl⟩))))
      · rw [if_pos h9]
        rfl
      · rw [if_neg h9]
        rfl
    | succ d ih =>
      intro o ho
      have c2 : ∀ (e m : Nat), m + e = 23 → Tt (fun K t => c_X8_jonesAt vl K t 2 x (ou o + smI (tm o) m) (nI o) (nI (m + 1)) 0 0 w2 0 24000 0 0 y) Q := by
        intro e
        induction e with
        | zero =>
          intro m hm
          have hm : m = 23 := by omega
          subst hm
          refine u_X8_jonesAt_2 ?_; unfold cm_X8_jonesAt_2
          rw [nI_1]
          exact w_leT (a := 24) (by omega) (by omega) (ih (o + 1) (by omega))
        | succ e ihe =>
          intro m hm
          have c4 : ∀ (z : Int32) (x7 x10 t0 t1 : Int32) (w8 : Int64), z = smI (tm o) (m + 1) → Tt (fun K t => c_X8_jonesAt vl K t 4 x (ou o + z) (nI o) (nI (m + 1)) x7 x10 w2 w8 24000 t0 t1 y) Q := by
            intro z x7 x10 t0 t1 w8 hz
            refine u_X8_jonesAt_4 ?_; unfold cm_X8_jonesAt_4
            rw [nI_1, hz]
            exact ihe (m + 1) (by omega)
          have c0 : ∀ (x7 x10 t0 t1 : Int32) (w8 : Int64), tm o m = 0 → Tt (fun K t => c_X8_jonesAt vl K t 4 x (ou o + smI (tm o) m) (nI o) (nI (m + 1)) x7 x10 w2 w8 24000 t0 t1 y) Q := by
            intro x7 x10 t0 t1 w8 hz
            refine c4 _ _ _ _ _ _ ?_
            show smI (tm o) m = smI (tm o) m + tm o m
            rw [hz, Int32.add_zero]
          have c3 : ∀ (t0 : Int32) (x7 x10 : Int32) (w8 : Int64), t0 = tm o m → Tt (fun K t => c_X8_jonesAt vl K t 3 x (ou o + smI (tm o) m) (nI o) (nI (m + 1)) x7 x10 w2 w8 24000 t0 (ou o + smI (tm o) m) y) Q := by
            intro t0 x7 x10 w8 hz
            refine u_X8_jonesAt_3 ?_; unfold cm_X8_jonesAt_3
            rw [Int32.add_assoc]
            refine c4 _ _ _ _ _ _ ?_
            rw [hz]
            rfl
          have m1 : nI (m + 1) - 1 = nI m := pk_sub (a := m + 1) (b := 1) (by omega)
          refine u_X8_jonesAt_2 ?_; unfold cm_X8_jonesAt_2
          refine w_leF (a := 24) (by omega) (by omega) (w_rdF h8 (w_nzJ (by decide) (w_if (fun h1 => w_if (fun h2 => c0 _ _ _ _ _ ?_) (fun h2 => w_if (fun h3 => c0 _ _ _ _ _ ?_) (fun h3 => ?_))) (fun h1 => c0 _ _ _ _ _ ?_))))
          · exact if_neg (fun h => h.2.1 h2)
          · exact if_neg (fun h => h.2.2 h3)
          · obtain ⟨i, i24, ei⟩ := jFt_ix (c := c) (ft := jFt c w2 o m) (by omega) h2 h3
            have tv : tm o m = if ((nI (m + 1) - 1) &&& 1) = 0 then y.2.1 24006 (24 * o + (m + 1)) * y.2.1 (39001 + m) i else -(y.2.1 24006 (24 * o + (m + 1)) * y.2.1 (39001 + m) i) := by
              show (if _ then _ else _) = _
              rw [if_pos ⟨h1, h2, h3⟩, ei, nI_clamp (by omega)]
            refine w_crI ch_24006 (i := 24 * o + (m + 1)) ?_ (by omega) rfl (w_crX m1 (show m < 24 by omega) (w_nzJ (by decide) (w_crI (ch_choose (show m < 24 by omega)) ei i24 rfl (w_if (fun h4 => c3 _ _ _ _ ?_) (fun h4 => c3 _ _ _ _ ?_)))))
            · rw [show nI o * (24 : Int32) = nI (o * 24) from pk_mul _ 24, nI_add]
              congr 1
              omega
            · rw [tv, if_pos h4]
            · rw [tv, if_neg h4]
          · exact if_neg (fun h => h1 h.1)
      refine u_X8_jonesAt_1 ?_; unfold cm_X8_jonesAt_1
      refine w_rdF h8 (w_ltF (by omega) (by omega) ?_)
      have := c2 23 0 (by omega)
      rw [show smI (tm o) 0 = 0 from rfl, Int32.add_zero] at this
      exact this
  refine e_X8_jonesAt ?_
  refine u_X8_jonesAt_0 ?_; unfold cm_X8_jonesAt_0
  exact w_rdF rfl (c1 (c + 1) 0 (by omega))
theorem gM_jn {y1 : ow_MS} (hf : fr jnP y y1) (hl : ∃ T, cAt y1 40000 T ∧ ow_b24 T.2.2.1) (h : gM y) : gM y1 := by
  refine ⟨⟨dgC_fr hf (fun g g1 g2 h9 => by unfold jnP at h9; omega) h.1.1, nsC_put nH40 hf (fun h' hh' hne g hg h9 => ?_) hl h.1.2.1, kdC_fr hf (fun g hg => by unfold jnP at hg; omega) h.1.2.2⟩, tbs_fr hf (fun g hg => by unfold jnP at hg; omega) h.2⟩
  have h8 := nH_far hh' nH40 hne
  have key : ∀ a, a ∈ nHL → a ≤ 17000 ∨ 26000 ≤ a := by decide
  have := key h' hh'
  unfold cP at hg
  unfold jnP at h9
  omega
/-- the answer of jones on a diagram -/
def jnV (y : ow_MS) (A : rn_L) (sg : Nat → Bool) (c : Nat) (x : Int32) (v : Int32) : Prop := jnT y A sg c ∧ v = (if (y.1 24009 &&& 1) = 0 then jAt y c x else - jAt y c x)
theorem e_X11_jones {vl : Nat → Nat} {r0 : Nat} {x1 : Int32} {x2 : Int32} {z : ow_MS} {Q : (Nat × Int32 × ow_MS) → Prop} (H : Tt (fun K _ => cm_X11_jones_0 vl K x1 x2 r0 z) Q) : Te (fun K => ce_X11_jones vl K r0 x1 x2 z) Q := w_te0 H
theorem tc_jones {x x' : Int32} (hM : gM y) (hk : jnC y) : Te (fun K => ce_X11_jones vl K 0 x x' y) (fun r => gM r.2.2 ∧ jnC r.2.2 ∧ (∀ D, cOK D → slC y 25000 0 D → slC r.2.2 25000 0 D) ∧ (byR y 25001 → byR r.2.2 25001) ∧ fr jnP y r.2.2 ∧ ((r.1 = 0 ∧ ∃ d A sg c, d < 40 ∧ x = nI d ∧ slC y 1000 d (clC sg A) ∧ okL A c ∧ A ≠ [] ∧ jnV r.2.2 A sg c x' r.2.1) ∨ r.1 = 1 ∧ ∀ d, d < 40 → x = nI d → y.2.1 1002 d = 0)) := by
  refine e_X11_jones ?_; unfold cm_X11_jones_0
  refine w_tc0 (tc_need hM.1.1) ?_ ?_
  · rintro y1 ⟨h1, rfl⟩
    rcases h1 with ⟨-, d, A, sg, c, hd, rfl, hs, hA, hne⟩ | h1
    · obtain ⟨T, hT, hT2⟩ := hM.1.2.1 40000 nH40
      refine w_cs0 (tc_countStates ch_1000 (by omega) hd hs hA hM.1.1.1 hk hT hT2) ?_
      rintro y2 ⟨g1, g2, g3, g4, g5, g6⟩
      obtain ⟨S, G, q1, q2, q3⟩ := id g2
      refine w_cs1 (tc_jonesAt hA.2.2.2.1 q2) ?_
      rintro v z ⟨e1, e2⟩
      dsimp only at e1 e2
      rw [e2]
      exact w_some ⟨gM_jn g6 g3 hM, ⟨_, g1, (okL_c hA).2, Or.inr ⟨A, sg, c, rfl, g2⟩⟩, g4, g5, g6, Or.inl ⟨rfl, d, A, sg, c, hd, rfl, hs, hA, hne, g2, e1⟩⟩
    · exact absurd (show (0 : Nat) = 1 from h1.1) (by decide)
  · rintro a y1 ha ⟨h1, rfl⟩
    rcases h1 with ⟨h1, -⟩ | ⟨h1, h2⟩
    · exact absurd h1 ha
    · exact w_some ⟨hM, hk, fun D _ h => h, fun h => h, fr_rf, Or.inr ⟨h1, h2⟩⟩
end CJA
