/-! the class: maps: counting -/
section CMQ
variable {vl : Nat → Nat} {y : ow_MS}
theorem u_X0_findClasses_1 {vl : Nat → Nat} {x1 : Int32} {x2 : Int32} {x3 : Int32} {x4 : Int32} {r0 : Nat} {z : ow_MS} {Q : ow_MS → Prop} (H : Tt (fun K k => cm_X0_findClasses_1 vl K (c_X0_findClasses vl K k) x1 x2 x3 x4 r0 z) Q) : Tt (fun K k => c_X0_findClasses vl K k 1 x1 x2 x3 x4 r0 z) Q := w_un (fun _ _ => rfl) H
theorem u_X0_findClasses_2 {vl : Nat → Nat} {x1 : Int32} {x2 : Int32} {x3 : Int32} {x4 : Int32} {r0 : Nat} {z : ow_MS} {Q : ow_MS → Prop} (H : Tt (fun K k => cm_X0_findClasses_2 vl K (c_X0_findClasses vl K k) x1 x2 x3 x4 r0 z) Q) : Tt (fun K k => c_X0_findClasses vl K k 2 x1 x2 x3 x4 r0 z) Q := w_un (fun _ _ => rfl) H
theorem e_X0_findClasses {vl : Nat → Nat} {r0 : Nat} {x1 : Int32} {z : ow_MS} {Q : ow_MS → Prop} (H : Tt (fun K k => c_X0_findClasses vl K k 0 x1 0 0 0 r0 z) Q) : Te (fun K => ce_X0_findClasses vl K r0 x1 z) Q := w_te H
theorem u_X0_findClasses_0 {vl : Nat → Nat} {x1 : Int32} {x2 : Int32} {x3 : Int32} {x4 : Int32} {r0 : Nat} {z : ow_MS} {Q : ow_MS → Prop} (H : Tt (fun K k => cm_X0_findClasses_0 vl K (c_X0_findClasses vl K k) x1 x2 x3 x4 r0 z) Q) : Tt (fun K k => c_X0_findClasses vl K k 0 x1 x2 x3 x4 r0 z) Q := w_un (fun _ _ => rfl) H
theorem tc_findCl {g : Nat} (hg : g ≤ 24) (h : mpC y) : Te (fun K => ce_X0_findClasses vl K 41000 (nI g) y) (fun y1 => fr (fun q => q = 41008) y y1) := by
  let Q : ow_MS → Prop := fun z => fr (fun q => q = 41008) y z
  have c1 : ∀ (d x : Nat) (z : ow_MS), x + d = g → Q z → Tt (fun K k => c_X0_findClasses vl K k 1 (nI g) (nI x) 0 0 41000 z) Q := by
    intro d
    induction d with
    | zero =>
      intro x z hx hz
      refine u_X0_findClasses_1 ?_; unfold cm_X0_findClasses_1
      exact w_leT (by omega) (by omega) (w_some hz)
    | succ d ih =>
      intro x z hx hz
      have c2 : ∀ (e o m : Nat), o + e = g → m < 24 → Tt (fun K k => c_X0_findClasses vl K k 2 (nI g) (nI x) (nI m) (nI o) 41000 z) Q := by
        intro e
        induction e with
        | zero =>
          intro o m ho hm
          refine u_X0_findClasses_2 ?_; unfold cm_X0_findClasses_2
          refine w_leT (by omega) (by omega) (w_crI ch_41008 rfl hm rfl (w_ctI ch_41008 rfl hm ?_))
          rw [nI_1]
          exact ih (x + 1) _ (by omega) (fr_I2 hz rfl)
        | succ e ihe =>
          intro o m ho hm
          obtain ⟨k, k1, k2⟩ := h.1 (24 * o + x) (by omega)
          refine u_X0_findClasses_2 ?_; unfold cm_X0_findClasses_2
          rw [show (24 : Int32) * nI o = nI (24 * o) from pk_mul 24 o, nI_add, nI_1, nI_1]
          refine w_leF (by omega) (by omega) (w_crI ch_41006 rfl (by omega) ((congrFun (hz 41006 (by decide)).2.1 _).trans k2) ?_)
          by_cases hk : k < m
          · rw [if_pos (nI_lt hk (by omega))]
            exact ihe (o + 1) k (by omega) k1
          · rw [if_neg (nI_nlt (by omega) (by omega))]
            exact ihe (o + 1) m (by omega) hm
      refine u_X0_findClasses_1 ?_; unfold cm_X0_findClasses_1
      exact w_leF (by omega) (by omega) (c2 g 0 x (by omega) (by omega))
  refine e_X0_findClasses ?_
  refine u_X0_findClasses_0 ?_; unfold cm_X0_findClasses_0
  refine w_cs0 (tc_fillA ch_41008 (by omega)) ?_
  rintro z ⟨-, hf⟩
  exact c1 g 0 z (by omega) hf
theorem w_cdM {dd r0 : Nat} {x1 x2 x3 : Int32} {z : ow_MS} {Q : Int64 × ow_MS → Prop} (H : Tt (fun K k => c_X0_countFrom vl K (cd0_X0_countFrom vl K dd) k 0 x1 x2 x3 0 0 0 0 0 0 r0 0 0 0 0 z) Q) : Te (fun K => cd0_X0_countFrom vl K (dd + 1) r0 x1 x2 x3 z) Q := w_te H
theorem mpC_set {z : ow_MS} {i k : Nat} (hk : k < 24) (h : mpC z) : mpC (usI z 41009 i (nI k)) := by
  obtain ⟨h1, h2, h3⟩ := h
  refine ⟨fun j hj => ?_, fun j hj => ?_, fun j hj => ?_⟩
  · obtain ⟨a, a1, a2⟩ := h1 j hj
    exact ⟨a, a1, rd_ot (by omega) a2⟩
  · obtain ⟨a, a1, a2⟩ := h2 j hj
    exact ⟨a, a1, rd_ot (by omega) a2⟩
  · by_cases e : j = i
    · rw [e]
      exact ⟨k, hk, po_usI_at⟩
    · obtain ⟨a, a1, a2⟩ := h3 j hj
      exact ⟨a, a1, rd_ne e a2⟩
theorem stP_fr {P : Nat → Prop} {y1 : ow_MS} (hf : fr P y y1) (hP : ∀ g, P g → g < 41010 ∨ 41014 < g) (h : stP y) : stP y1 := by
  obtain ⟨k, k1, k2, k3⟩ := h
  refine ⟨k, k1, (hf 41010 (fun h9 => by have := hP _ h9; omega)).1.trans k2, fun s hs => ?_⟩
  rw [(hf 41012 (fun h9 => by have := hP _ h9; omega)).2.1, (hf 41013 (fun h9 => by have := hP _ h9; omega)).2.1, (hf 41014 (fun h9 => by have := hP _ h9; omega)).2.1]
  exact k3 s hs
theorem u_X0_countFrom_0 {dd : Nat} {vl : Nat → Nat} {x1 : Int32} {x2 : Int32} {x3 : Int32} {x4 : Int32} {x5 : Int32} {x6 : Int32} {x7 : Int32} {x8 : Int32} {w5 : Int64} {r0 : Nat} {t0 : Int32} {t1 : Int32} {y0 : Int64} {y1 : Int64} {z : ow_MS} {Q : (Int64 × ow_MS) → Prop} (H : Tt (fun K k => cm_X0_countFrom_0 vl K (cd0_X0_countFrom vl K dd) (c_X0_countFrom vl K (cd0_X0_countFrom vl K dd) k) x1 x2 x3 x4 x5 x6 x7 x8 w5 r0 t0 t1 y0 y1 z) Q) : Tt (fun K k => c_X0_countFrom vl K (cd0_X0_countFrom vl K dd) k 0 x1 x2 x3 x4 x5 x6 x7 x8 w5 r0 t0 t1 y0 y1 z) Q := w_un (fun _ _ => rfl) H
theorem u_X0_countFrom_1 {dd : Nat} {vl : Nat → Nat} {x1 : Int32} {x2 : Int32} {x3 : Int32} {x4 : Int32} {x5 : Int32} {x6 : Int32} {x7 : Int32} {x8 : Int32} {w5 : Int64} {r0 : Nat} {t0 : Int32} {t1 : Int32} {y0 : Int64} {y1 : Int64} {z : ow_MS} {Q : (Int64 × ow_MS) → Prop} (H : Tt (fun K k => cm_X0_countFrom_1 vl K (cd0_X0_countFrom vl K dd) (c_X0_countFrom vl K (cd0_X0_countFrom vl K dd) k) x1 x2 x3 x4 x5 x6 x7 x8 w5 r0 t0 t1 y0 y1 z) Q) : Tt (fun K k => c_X0_countFrom vl K (cd0_X0_countFrom vl K dd) k 1 x1 x2 x3 x4 x5 x6 x7 x8 w5 r0 t0 t1 y0 y1 z) Q := w_un (fun _ _ => rfl) H
theorem u_X0_countFrom_6 {dd : Nat} {vl : Nat → Nat} {x1 : Int32} {x2 : Int32} {x3 : Int32} {x4 : Int32} {x5 : Int32} {x6 : Int32} {x7 : Int32} {x8 : Int32} {w5 : Int64} {r0 : Nat} {t0 : Int32} {t1 : Int32} {y0 : Int64} {y1 : Int64} {z : ow_MS} {Q : (Int64 × ow_MS) → Prop} (H : Tt (fun K k => cm_X0_countFrom_6 vl K (cd0_X0_countFrom vl K dd) (c_X0_countFrom vl K (cd0_X0_countFrom vl K dd) k) x1 x2 x3 x4 x5 x6 x7 x8 w5 r0 t0 t1 y0 y1 z) Q) : Tt (fun K k => c_X0_countFrom vl K (cd0_X0_countFrom vl K dd) k 6 x1 x2 x3 x4 x5 x6 x7 x8 w5 r0 t0 t1 y0 y1 z) Q := w_un (fun _ _ => rfl) H
theorem u_X0_countFrom_2 {dd : Nat} {vl : Nat → Nat} {x1 : Int32} {x2 : Int32} {x3 : Int32} {x4 : Int32} {x5 : Int32} {x6 : Int32} {x7 : Int32} {x8 : Int32} {w5 : Int64} {r0 : Nat} {t0 : Int32} {t1 : Int32} {y0 : Int64} {y1 : Int64} {z : ow_MS} {Q : (Int64 × ow_MS) → Prop} (H : Tt (fun K k => cm_X0_countFrom_2 vl K (cd0_X0_countFrom vl K dd) (c_X0_countFrom vl K (cd0_X0_countFrom vl K dd) k) x1 x2 x3 x4 x5 x6 x7 x8 w5 r0 t0 t1 y0 y1 z) Q) : Tt (fun K k => c_X0_countFrom vl K (cd0_X0_countFrom vl K dd) k 2 x1 x2 x3 x4 x5 x6 x7 x8 w5 r0 t0 t1 y0 y1 z) Q := w_un (fun _ _ => rfl) H
theorem u_X0_countFrom_4 {dd : Nat} {vl : Nat → Nat} {x1 : Int32} {x2 : Int32} {x3 : Int32} {x4 : Int32} {x5 : Int32} {x6 : Int32} {x7 : Int32} {x8 : Int32} {w5 : Int64} {r0 : Nat} {t0 : Int32} {t1 : Int32} {y0 : Int64} {y1 : Int64} {z : ow_MS} {Q : (Int64 × ow_MS) → Prop} (H : Tt (fun K k => cm_X0_countFrom_4 vl K (cd0_X0_countFrom vl K dd) (c_X0_countFrom vl K (cd0_X0_countFrom vl K dd) k) x1 x2 x3 x4 x5 x6 x7 x8 w5 r0 t0 t1 y0 y1 z) Q) : Tt (fun K k => c_X0_countFrom vl K (cd0_X0_countFrom vl K dd) k 4 x1 x2 x3 x4 x5 x6 x7 x8 w5 r0 t0 t1 y0 y1 z) Q := w_un (fun _ _ => rfl) H
theorem u_X0_countFrom_3 {dd : Nat} {vl : Nat → Nat} {x1 : Int32} {x2 : Int32} {x3 : Int32} {x4 : Int32} {x5 : Int32} {x6 : Int32} {x7 : Int32} {x8 : Int32} {w5 : Int64} {r0 : Nat} {t0 : Int32} {t1 : Int32} {y0 : Int64} {y1 : Int64} {z : ow_MS} {Q : (Int64 × ow_MS) → Prop} (H : Tt (fun K k => cm_X0_countFrom_3 vl K (cd0_X0_countFrom vl K dd) (c_X0_countFrom vl K (cd0_X0_countFrom vl K dd) k) x1 x2 x3 x4 x5 x6 x7 x8 w5 r0 t0 t1 y0 y1 z) Q) : Tt (fun K k => c_X0_countFrom vl K (cd0_X0_countFrom vl K dd) k 3 x1 x2 x3 x4 x5 x6 x7 x8 w5 r0 t0 t1 y0 y1 z) Q := w_un (fun _ _ => rfl) H
theorem u_X0_countFrom_5 {dd : Nat} {vl : Nat → Nat} {x1 : Int32} {x2 : Int32} {x3 : Int32} {x4 : Int32} {x5 : Int32} {x6 : Int32} {x7 : Int32} {x8 : Int32} {w5 : Int64} {r0 : Nat} {t0 : Int32} {t1 : Int32} {y0 : Int64} {y1 : Int64} {z : ow_MS} {Q : (Int64 × ow_MS) → Prop} (H : Tt (fun K k => cm_X0_countFrom_5 vl K (cd0_X0_countFrom vl K dd) (c_X0_countFrom vl K (cd0_X0_countFrom vl K dd) k) x1 x2 x3 x4 x5 x6 x7 x8 w5 r0 t0 t1 y0 y1 z) Q) : Tt (fun K k => c_X0_countFrom vl K (cd0_X0_countFrom vl K dd) k 5 x1 x2 x3 x4 x5 x6 x7 x8 w5 r0 t0 t1 y0 y1 z) Q := w_un (fun _ _ => rfl) H
theorem tc_countF {g : Nat} (hg : g ≤ 24) : ∀ (d q s dd : Nat) (z : ow_MS), q + d = 19 → d ≤ dd → s ≤ 36 → mpC z → stP z → Te (fun K => cd0_X0_countFrom vl K (dd + 1) 41000 (nI s) (nI q) (nI g) z) (fun r => mpC r.2 ∧ fr (fun q => q = 41009) z r.2) := by
  intro d
  induction d with
  | zero =>
    intro q s dd z hq hdd hs hm hst
    refine w_cdM ?_
    refine u_X0_countFrom_0 ?_; unfold cm_X0_countFrom_0
    exact w_leF (b := 18) (by omega) (by omega) (w_some ⟨hm, fr_rf⟩)
  | succ d ih =>
    intro q s dd z hq hdd hs hm hst
    obtain ⟨dd, rfl⟩ : ∃ k, dd = k + 1 := ⟨dd - 1, by omega⟩
    let Q : Int64 × ow_MS → Prop := fun r => mpC r.2 ∧ fr (fun q => q = 41009) z r.2
    have sf : ∀ y1, fr (fun q => q = 41009) z y1 → stP y1 := fun y1 hf => stP_fr hf (fun g hg => by omega) hst
    have c1 : ∀ (e j : Nat) (y1 : ow_MS), j + e = 37 → mpC y1 → fr (fun q => q = 41009) z y1 → Tt (fun K k => c_X0_countFrom vl K (cd0_X0_countFrom vl K (dd + 1)) k 1 (nI s) (nI q) (nI g) (nI j) 0 0 0 0 0 41000 0 0 0 0 y1) Q := by
      intro e
      induction e with
      | zero =>
        intro j y1 hj hm1 hf
        obtain ⟨k, k36, k1, k2⟩ := sf y1 hf
        refine u_X0_countFrom_1 ?_; unfold cm_X0_countFrom_1
        exact w_rdF k1 (w_leT (by omega) (by omega) (w_some ⟨hm1, hf⟩))
      | succ e ihe =>
        intro j y1 hj hm1 hf
        obtain ⟨k, k36, k1, k2⟩ := sf y1 hf
        have c6 : ∀ (x5 x6 : Int32) (y1 : ow_MS), mpC y1 → fr (fun q => q = 41009) z y1 → Tt (fun K k => c_X0_countFrom vl K (cd0_X0_countFrom vl K (dd + 1)) k 6 (nI s) (nI q) (nI g) (nI j) x5 x6 0 0 0 41000 0 0 0 0 y1) Q := by
          intro x5 x6 y1 hm1 hf
          refine u_X0_countFrom_6 ?_; unfold cm_X0_countFrom_6
          rw [nI_1]
          exact ihe (j + 1) y1 (by omega) hm1 hf
        refine u_X0_countFrom_1 ?_; unfold cm_X0_countFrom_1
        refine w_rdF k1 (w_le (by omega) (by omega) (fun _ => w_some ⟨hm1, hf⟩) (fun hjk => ?_))
        obtain ⟨⟨a1, p1, p2⟩, ⟨a2, p3, p4⟩, a3, p5, p6⟩ := k2 j hjk
        have p20 : z.2.1 41012 j = nI a1 := (congrFun (hf 41012 (by decide)).2.1 j).symm.trans p2
        refine w_crI ch_41011 rfl (show j < 36 by omega) rfl (w_if (fun _ => ?_) (fun _ => ?_))
        · -- a seed
          have c2 : ∀ (f t : Nat) (w : Int64) (y1 : ow_MS), t + f = g → mpC y1 → fr (fun q => q = 41009) z y1 → Tt (fun K k => c_X0_countFrom vl K (cd0_X0_countFrom vl K (dd + 1)) k 2 (nI s) (nI q) (nI g) (nI j) 0 0 (nI t) 0 w 41000 0 0 0 0 y1) Q := by
            intro f
            induction f with
            | zero =>
              intro t w y1 ht hm1 hf
              refine u_X0_countFrom_2 ?_; unfold cm_X0_countFrom_2
              exact w_leT (by omega) (by omega) (w_some ⟨hm1, hf⟩)
            | succ f ihf =>
              intro t w y1 ht hm1 hf
              have c4 : ∀ (x8 : Int32) (w5 y0 v1 : Int64) (y1 : ow_MS), mpC y1 → fr (fun q => q = 41009) z y1 → Tt (fun K k => c_X0_countFrom vl K (cd0_X0_countFrom vl K (dd + 1)) k 4 (nI s) (nI q) (nI g) (nI j) 0 0 (nI t) x8 w5 41000 0 0 y0 v1 y1) Q := by
                intro x8 w5 y0 v1 y1 hm1 hf
                refine u_X0_countFrom_4 ?_; unfold cm_X0_countFrom_4
                rw [nI_1]
                exact ihf (t + 1) _ y1 (by omega) hm1 hf
              have c3 : ∀ (t0 : Int32), Tt (fun K k => c_X0_countFrom vl K (cd0_X0_countFrom vl K (dd + 1)) k 3 (nI s) (nI q) (nI g) (nI j) 0 0 (nI t) 0 w 41000 t0 0 0 0 y1) Q := by
                intro t0
                have m2 : mpC (usI y1 41009 a1 (nI t)) := mpC_set (by omega) hm1
                have f2 : fr (fun q => q = 41009) z (usI y1 41009 a1 (nI t)) := fr_I2 hf rfl
                have p2' : y1.2.1 41012 j = nI a1 := (congrFun (hf 41012 (by decide)).2.1 j).trans p20
                refine u_X0_countFrom_3 ?_; unfold cm_X0_countFrom_3
                refine w_crI ch_41012 rfl (show j < 36 by omega) p2' (w_ctI ch_41009 rfl p1 (w_if (fun _ => c4 _ _ _ _ _ m2 f2) (fun _ => ?_)))
                rw [nI_1, nI_1]
                refine w_cs1 (ih (q + 1) (j + 1) dd _ (by omega) (by omega) (by omega) m2 (sf _ f2)) ?_
                rintro v y3 ⟨m3, f3⟩
                exact c4 _ _ _ _ y3 m3 (fr_tr f2 f3)
              refine u_X0_countFrom_2 ?_; unfold cm_X0_countFrom_2
              refine w_leF (by omega) (by omega) (w_if (fun _ => w_crI ch_41008 rfl (show t < 24 by omega) rfl (c3 _)) (fun _ => c3 _))
          exact c2 g 0 0 y1 (by omega) hm1 hf
        · -- a step
          obtain ⟨b2, q1, q2⟩ := hm1.2.2 a2 p3
          obtain ⟨b3, q3, q4⟩ := hm1.2.2 a3 p5
          have c5 : ∀ (o : Nat) (x5 : Int32), o < 24 → Tt (fun K k => c_X0_countFrom vl K (cd0_X0_countFrom vl K (dd + 1)) k 5 (nI s) (nI q) (nI g) (nI j) x5 0 0 0 0 41000 (nI o) 24 0 0 y1) Q := by
            intro o x5 ho
            obtain ⟨b4, q5, q6⟩ := hm1.1 (24 * o + b3) (by omega)
            refine u_X0_countFrom_5 ?_; unfold cm_X0_countFrom_5
            refine w_crI ch_41014 rfl (show j < 36 by omega) p6 (w_crI ch_41009 rfl p5 q4 (w_crI ch_41006 (i := 24 * o + b3) (by rw [show (24 : Int32) * nI o = nI (24 * o) from pk_mul 24 o, nI_add]) (by omega) q6 (w_crI ch_41011 rfl (show j < 36 by omega) rfl (w_if (fun _ => w_crI ch_41012 rfl (show j < 36 by omega) p2 (w_ctI ch_41009 rfl p1 (c6 _ _ _ (mpC_set q5 hm1) (fr_I2 hf rfl)))) (fun _ => w_crI ch_41012 rfl (show j < 36 by omega) p2 (w_crI ch_41009 rfl p1 rfl (w_if (fun _ => c6 _ _ y1 hm1 hf) (fun _ => w_some ⟨hm1, hf⟩))))))))
          obtain ⟨b5, q7, q8⟩ := hm1.2.1 b2 q1
          exact w_crI ch_41013 rfl (show j < 36 by omega) p4 (w_crI ch_41009 rfl p3 q2 (w_crI ch_41015 rfl (show j < 36 by omega) rfl (w_if (fun _ => c5 b2 _ q1) (fun _ => w_crI ch_41007 rfl q1 q8 (c5 b5 _ q7)))))
    refine w_cdM ?_
    refine u_X0_countFrom_0 ?_; unfold cm_X0_countFrom_0
    exact w_leT (b := 18) (by omega) (by omega) (c1 (37 - s) s z (by omega) hm fr_rf)
end CMQ
