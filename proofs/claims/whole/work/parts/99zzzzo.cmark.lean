/-! the class's nets: rings and parts marked -/
section CM
variable {vl : Nat → Nat} {y : ow_MS} {h : Nat} {T : ow_NT}
def rwC (y : ow_MS) (g : Nat) (F : Nat → Int32) : Prop := ∀ k, y.2.1 g k = F k
theorem rwC_su {y : ow_MS} {g i : Nat} {F : Nat → Int32} {x : Int32} (hy : rwC y g F) : rwC (usI y g i x) g (su F i x) := by
  intro k
  show _ = if k = i then x else F k
  by_cases e : k = i
  · rw [if_pos e, e]
    exact po_usI_at
  · rw [if_neg e]
    exact rd_ne e (hy k)
theorem rwC_ot {y : ow_MS} {g g' i : Nat} {F : Nat → Int32} {x : Int32} (hg : g ≠ g') (hy : rwC y g F) : rwC (usI y g' i x) g F := fun k => rd_ot hg (hy k)
theorem cAt_I {g i : Nat} {x : Int32} (hg : g = h + 4 ∨ g = h + 5 ∨ g = h + 6 ∨ g = h + 7) (hy : cAt y h T) : cAt (usI y g i x) h T := cAt_fr (P := fun q => q = g) (fr_I2 fr_rf rfl) (fun q hq => by unfold cP at hq; omega) hy
theorem cAt_F {g : Nat} {x : Int32} (hg : g = h + 10 ∨ g = h + 11) (hy : cAt y h T) : cAt (usF y g x) h T := cAt_fr (P := fun q => q = g) (fr_F2 fr_rf rfl) (fun q hq => by unfold cP at hq; omega) hy
def cR (h g : Nat) : Prop := g = h + 5 ∨ g = h + 10
theorem mr_out_le (N : Nat → Nat) (vs : Nat) (F : Nat → Int32) : ∀ n, (mr_out N vs F n).2 ≤ n := by
  intro n
  induction n with
  | zero => exact Nat.zero_le _
  | succ n ih =>
    show (if (mr_out N vs F n).1 n = -1 then (_, (mr_out N vs F n).2 + 1) else mr_out N vs F n).2 ≤ n + 1
    split
    · show (mr_out N vs F n).2 + 1 ≤ n + 1
      omega
    · omega
theorem u_X7_markRings_1 {vl : Nat → Nat} {x1 : Int32} {x2 : Int32} {x3 : Int32} {x4 : Int32} {r0 : Nat} {z : ow_MS} {Q : ow_MS → Prop} (H : Tt (fun K k => cm_X7_markRings_1 vl K (c_X7_markRings vl K k) x1 x2 x3 x4 r0 z) Q) : Tt (fun K k => c_X7_markRings vl K k 1 x1 x2 x3 x4 r0 z) Q := w_un (fun _ _ => rfl) H
theorem u_X7_markRings_4 {vl : Nat → Nat} {x1 : Int32} {x2 : Int32} {x3 : Int32} {x4 : Int32} {r0 : Nat} {z : ow_MS} {Q : ow_MS → Prop} (H : Tt (fun K k => cm_X7_markRings_4 vl K (c_X7_markRings vl K k) x1 x2 x3 x4 r0 z) Q) : Tt (fun K k => c_X7_markRings vl K k 4 x1 x2 x3 x4 r0 z) Q := w_un (fun _ _ => rfl) H
theorem u_X7_markRings_3 {vl : Nat → Nat} {x1 : Int32} {x2 : Int32} {x3 : Int32} {x4 : Int32} {r0 : Nat} {z : ow_MS} {Q : ow_MS → Prop} (H : Tt (fun K k => cm_X7_markRings_3 vl K (c_X7_markRings vl K k) x1 x2 x3 x4 r0 z) Q) : Tt (fun K k => c_X7_markRings vl K k 3 x1 x2 x3 x4 r0 z) Q := w_un (fun _ _ => rfl) H
theorem u_X7_markRings_2 {vl : Nat → Nat} {x1 : Int32} {x2 : Int32} {x3 : Int32} {x4 : Int32} {r0 : Nat} {z : ow_MS} {Q : ow_MS → Prop} (H : Tt (fun K k => cm_X7_markRings_2 vl K (c_X7_markRings vl K k) x1 x2 x3 x4 r0 z) Q) : Tt (fun K k => c_X7_markRings vl K k 2 x1 x2 x3 x4 r0 z) Q := w_un (fun _ _ => rfl) H
theorem e_X7_markRings {vl : Nat → Nat} {r0 : Nat} {z : ow_MS} {Q : ow_MS → Prop} (H : Tt (fun K k => c_X7_markRings vl K k 0 0 0 0 0 r0 z) Q) : Te (fun K => ce_X7_markRings vl K r0 z) Q := w_te H
theorem u_X7_markRings_0 {vl : Nat → Nat} {x1 : Int32} {x2 : Int32} {x3 : Int32} {x4 : Int32} {r0 : Nat} {z : ow_MS} {Q : ow_MS → Prop} (H : Tt (fun K k => cm_X7_markRings_0 vl K (c_X7_markRings vl K k) x1 x2 x3 x4 r0 z) Q) : Tt (fun K k => c_X7_markRings vl K k 0 x1 x2 x3 x4 r0 z) Q := w_un (fun _ _ => rfl) H
theorem tc_markRings (hh : nH h) (hy : cAt y h T) (hb : ow_b24 T.2.2.1) (hT : T.1 ≤ 12) : Te (fun K => ce_X7_markRings vl K h y) (fun y1 => rwC y1 (h + 5) (mr_out T.2.2.1.1 (2 * T.1) (np_fill (y.2.1 (h + 5)) 0 (2 * T.1) (-1)) (2 * T.1)).1 ∧ y1.1 (h + 10) = nI (mr_out T.2.2.1.1 (2 * T.1) (np_fill (y.2.1 (h + 5)) 0 (2 * T.1) (-1)) (2 * T.1)).2 ∧ fr (cR h) y y1) := by
  generalize hF0 : np_fill (y.2.1 (h + 5)) 0 (2 * T.1) (-1) = F0
  let N := T.2.2.1.1
  let vs := 2 * T.1
  let Q : ow_MS → Prop := fun y1 => rwC y1 (h + 5) (mr_out N vs F0 vs).1 ∧ y1.1 (h + 10) = nI (mr_out N vs F0 vs).2 ∧ fr (cR h) y y1
  have hvs : vs ≤ 24 := by show 2 * T.1 ≤ 24; omega
  have cAy : ∀ {y1 : ow_MS}, fr (cR h) y y1 → cAt y1 h T := fun hf => cAt_fr hf (fun q hq hr => by unfold cP at hq; unfold cR at hr; omega) hy
  have c1 : ∀ (d s : Nat) (y1 : ow_MS), s + d = vs → rwC y1 (h + 5) (mr_out N vs F0 s).1 → y1.1 (h + 10) = nI (mr_out N vs F0 s).2 → fr (cR h) y y1 → Tt (fun K t => c_X7_markRings vl K t 1 (nI vs) (nI s) 0 0 h y1) Q := by
    intro d
    induction d with
    | zero =>
      intro s y1 hs h1 h2 hf
      have e : s = vs := by omega
      rw [e] at h1 h2
      refine u_X7_markRings_1 ?_; unfold cm_X7_markRings_1
      exact w_leT (by omega) (by omega) (w_some ⟨h1, h2, hf⟩)
    | succ d ih =>
      intro s y1 hs h1 h2 hf
      have hle := mr_out_le N vs F0 s
      have eo : mr_out N vs F0 (s + 1) = if (mr_out N vs F0 s).1 s = -1 then (mr_in N (nI (mr_out N vs F0 s).2) vs (mr_out N vs F0 s).1 s, (mr_out N vs F0 s).2 + 1) else mr_out N vs F0 s := rfl
      have k4 : ∀ (y1 : ow_MS), rwC y1 (h + 5) (mr_out N vs F0 (s + 1)).1 → y1.1 (h + 10) = nI (mr_out N vs F0 (s + 1)).2 → fr (cR h) y y1 → Tt (fun K t => c_X7_markRings vl K t 4 (nI vs) (nI s) 0 0 h y1) Q := by
        intro y1 h1 h2 hf
        refine u_X7_markRings_4 ?_; unfold cm_X7_markRings_4
        rw [nI_1]
        exact ih (s + 1) y1 (by omega) h1 h2 hf
      refine u_X7_markRings_1 ?_; unfold cm_X7_markRings_1
      refine w_leF (by omega) (by omega) (w_crI (nH_5 hh) rfl (by omega) (h1 s) (w_if (fun e => ?_) (fun e => ?_)))
      · rw [if_pos e] at eo
        generalize (mr_out N vs F0 s).2 = q at *
        have k3 : ∀ (x3 x4 : Int32) (y1 : ow_MS), rwC y1 (h + 5) (mr_out N vs F0 (s + 1)).1 → y1.1 (h + 10) = nI q → fr (cR h) y y1 → Tt (fun K t => c_X7_markRings vl K t 3 (nI vs) (nI s) x3 x4 h y1) Q := by
          intro x3 x4 y1 h1 h2 hf
          refine u_X7_markRings_3 ?_; unfold cm_X7_markRings_3
          refine w_rdF h2 ?_
          rw [nI_1]
          refine w_wrF (k4 _ h1 ?_ (fr_F2 hf (Or.inr rfl)))
          rw [eo]
          exact po_usF_at
        have c2 : ∀ (e i v : Nat) (F : Nat → Int32) (y1 : ow_MS), i + e = vs → v < 24 → rwC y1 (h + 5) F → y1.1 (h + 10) = nI q → fr (cR h) y y1 → mr_in N (nI q) e F v = (mr_out N vs F0 (s + 1)).1 → Tt (fun K t => c_X7_markRings vl K t 2 (nI vs) (nI s) (nI v) (nI i) h y1) Q := by
          intro e
          induction e with
          | zero =>
            intro i v F y1 hi hv h1 h2 hf hm
            have hm : F = _ := hm
            refine u_X7_markRings_2 ?_; unfold cm_X7_markRings_2
            exact w_leT (by omega) (by omega) (k3 _ _ y1 (by rw [← hm]; exact h1) h2 hf)
          | succ e ihe =>
            intro i v F y1 hi hv h1 h2 hf hm
            have hm : (if F v = -1 then mr_in N (nI q) e (su F v (nI q)) (N v) else F) = _ := hm
            refine u_X7_markRings_2 ?_; unfold cm_X7_markRings_2
            refine w_leF (by omega) (by omega) (w_crI (nH_5 hh) rfl hv (h1 v) (w_if (fun e1 => ?_) (fun e1 => ?_)))
            · rw [if_pos e1] at hm
              rw [nI_1]
              refine w_rdF h2 (w_ctI (nH_5 hh) rfl hv (w_crI (nH_1 hh) rfl hv (rd_ot (by omega) ((cAy hf).2.2.1 v)) (ihe (i + 1) _ _ _ (by omega) (hb.1 v) (rwC_su h1) h2 (fr_I2 hf (Or.inl rfl)) hm)))
            · rw [if_neg e1] at hm
              exact k3 _ _ y1 (by rw [← hm]; exact h1) h2 hf
        exact c2 vs 0 s _ y1 (by omega) (by omega) h1 h2 hf (by rw [eo])
      · rw [if_neg e] at eo
        refine k4 y1 ?_ ?_ hf
        · rw [eo]
          exact h1
        · rw [eo]
          exact h2
  refine e_X7_markRings ?_
  refine u_X7_markRings_0 ?_; unfold cm_X7_markRings_0
  refine w_rdF hy.1 ?_
  rw [show (2 : Int32) * nI T.1 = nI (2 * T.1) from pk_mul 2 _]
  refine w_cs0 (tc_fill (a := 0) (nH_5 hh) (by omega) (show 2 * T.1 ≤ 24 by omega) (by omega)) ?_
  rintro y1 ⟨h1, f1⟩
  refine w_wrF (c1 vs 0 _ (by omega) (fun k => ?_) po_usF_at (fr_F2 (fr_mono (fun g hg => Or.inl hg) f1) (Or.inr rfl)))
  rw [← hF0]
  exact h1 k
theorem xor1 : ∀ q : Fin 24, nI q.val ^^^ 1 = nI (mt q.val) := by decide +kernel
def cQ (h g : Nat) : Prop := g = h + 6 ∨ g = h + 7 ∨ g = h + 11
theorem u_X7_markParts_1 {vl : Nat → Nat} {x1 : Int32} {x2 : Int32} {x3 : Int32} {x4 : Int32} {x5 : Int32} {x6 : Int32} {r0 : Nat} {z : ow_MS} {Q : ow_MS → Prop} (H : Tt (fun K k => cm_X7_markParts_1 vl K (c_X7_markParts vl K k) x1 x2 x3 x4 x5 x6 r0 z) Q) : Tt (fun K k => c_X7_markParts vl K k 1 x1 x2 x3 x4 x5 x6 r0 z) Q := w_un (fun _ _ => rfl) H
theorem u_X7_markParts_6 {vl : Nat → Nat} {x1 : Int32} {x2 : Int32} {x3 : Int32} {x4 : Int32} {x5 : Int32} {x6 : Int32} {r0 : Nat} {z : ow_MS} {Q : ow_MS → Prop} (H : Tt (fun K k => cm_X7_markParts_6 vl K (c_X7_markParts vl K k) x1 x2 x3 x4 x5 x6 r0 z) Q) : Tt (fun K k => c_X7_markParts vl K k 6 x1 x2 x3 x4 x5 x6 r0 z) Q := w_un (fun _ _ => rfl) H
theorem u_X7_markParts_5 {vl : Nat → Nat} {x1 : Int32} {x2 : Int32} {x3 : Int32} {x4 : Int32} {x5 : Int32} {x6 : Int32} {r0 : Nat} {z : ow_MS} {Q : ow_MS → Prop} (H : Tt (fun K k => cm_X7_markParts_5 vl K (c_X7_markParts vl K k) x1 x2 x3 x4 x5 x6 r0 z) Q) : Tt (fun K k => c_X7_markParts vl K k 5 x1 x2 x3 x4 x5 x6 r0 z) Q := w_un (fun _ _ => rfl) H
theorem u_X7_markParts_2 {vl : Nat → Nat} {x1 : Int32} {x2 : Int32} {x3 : Int32} {x4 : Int32} {x5 : Int32} {x6 : Int32} {r0 : Nat} {z : ow_MS} {Q : ow_MS → Prop} (H : Tt (fun K k => cm_X7_markParts_2 vl K (c_X7_markParts vl K k) x1 x2 x3 x4 x5 x6 r0 z) Q) : Tt (fun K k => c_X7_markParts vl K k 2 x1 x2 x3 x4 x5 x6 r0 z) Q := w_un (fun _ _ => rfl) H
theorem u_X7_markParts_4 {vl : Nat → Nat} {x1 : Int32} {x2 : Int32} {x3 : Int32} {x4 : Int32} {x5 : Int32} {x6 : Int32} {r0 : Nat} {z : ow_MS} {Q : ow_MS → Prop} (H : Tt (fun K k => cm_X7_markParts_4 vl K (c_X7_markParts vl K k) x1 x2 x3 x4 x5 x6 r0 z) Q) : Tt (fun K k => c_X7_markParts vl K k 4 x1 x2 x3 x4 x5 x6 r0 z) Q := w_un (fun _ _ => rfl) H
theorem u_X7_markParts_3 {vl : Nat → Nat} {x1 : Int32} {x2 : Int32} {x3 : Int32} {x4 : Int32} {x5 : Int32} {x6 : Int32} {r0 : Nat} {z : ow_MS} {Q : ow_MS → Prop} (H : Tt (fun K k => cm_X7_markParts_3 vl K (c_X7_markParts vl K k) x1 x2 x3 x4 x5 x6 r0 z) Q) : Tt (fun K k => c_X7_markParts vl K k 3 x1 x2 x3 x4 x5 x6 r0 z) Q := w_un (fun _ _ => rfl) H
theorem e_X7_markParts {vl : Nat → Nat} {r0 : Nat} {z : ow_MS} {Q : ow_MS → Prop} (H : Tt (fun K k => c_X7_markParts vl K k 0 0 0 0 0 0 0 r0 z) Q) : Te (fun K => ce_X7_markParts vl K r0 z) Q := w_te H
theorem u_X7_markParts_0 {vl : Nat → Nat} {x1 : Int32} {x2 : Int32} {x3 : Int32} {x4 : Int32} {x5 : Int32} {x6 : Int32} {r0 : Nat} {z : ow_MS} {Q : ow_MS → Prop} (H : Tt (fun K k => cm_X7_markParts_0 vl K (c_X7_markParts vl K k) x1 x2 x3 x4 x5 x6 r0 z) Q) : Tt (fun K k => c_X7_markParts vl K k 0 x1 x2 x3 x4 x5 x6 r0 z) Q := w_un (fun _ _ => rfl) H
theorem tc_markParts (hh : nH h) (hy : cAt y h T) (hN : ∀ k, k < 2 * T.1 → T.2.2.1.1 k < 2 * T.1) (hT : T.1 ≤ 12) : Te (fun K => ce_X7_markParts vl K h y) (fun y1 => rwC y1 (h + 6) (mp_out T.2.2.1.1 (2 * T.1) (np_fill (y.2.1 (h + 6)) 0 (2 * T.1) (-1)) (2 * T.1)).1 ∧ y1.1 (h + 11) = nI (mp_out T.2.2.1.1 (2 * T.1) (np_fill (y.2.1 (h + 6)) 0 (2 * T.1) (-1)) (2 * T.1)).2 ∧ fr (cQ h) y y1) := by
  generalize hF0 : np_fill (y.2.1 (h + 6)) 0 (2 * T.1) (-1) = F0
  let N := T.2.2.1.1
  generalize hvv : 2 * T.1 = vs at *
  let Q : ow_MS → Prop := fun y1 => rwC y1 (h + 6) (mp_out N vs F0 vs).1 ∧ y1.1 (h + 11) = nI (mp_out N vs F0 vs).2 ∧ fr (cQ h) y y1
  have hvs : vs ≤ 24 := by omega
  have cAy : ∀ {y1 : ow_MS}, fr (cQ h) y y1 → cAt y1 h T := fun hf => cAt_fr hf (fun q hq hr => by unfold cP at hq; unfold cQ at hr; omega) hy
  have c1 : ∀ (d s : Nat) (y1 : ow_MS), s + d = vs → rwC y1 (h + 6) (mp_out N vs F0 s).1 → y1.1 (h + 11) = nI (mp_out N vs F0 s).2 → fr (cQ h) y y1 → Tt (fun K t => c_X7_markParts vl K t 1 (nI vs) (nI s) 0 0 0 0 h y1) Q := by
    intro d
    induction d with
    | zero =>
      intro s y1 hs h1 h2 hf
      have e : s = vs := by omega
      rw [e] at h1 h2
      refine u_X7_markParts_1 ?_; unfold cm_X7_markParts_1
      exact w_leT (by omega) (by omega) (w_some ⟨h1, h2, hf⟩)
    | succ d ih =>
      intro s y1 hs h1 h2 hf
      have hle := mp_out_le N vs F0 s
      have eo : mp_out N vs F0 (s + 1) = if (mp_out N vs F0 s).1 s = -1 then ((mp_bfs N (nI (mp_out N vs F0 s).2) vs 0 (su (mp_out N vs F0 s).1 s (nI (mp_out N vs F0 s).2), (fun _ => s), 1)).1, (mp_out N vs F0 s).2 + 1) else mp_out N vs F0 s := rfl
      have k6 : ∀ (y1 : ow_MS), rwC y1 (h + 6) (mp_out N vs F0 (s + 1)).1 → y1.1 (h + 11) = nI (mp_out N vs F0 (s + 1)).2 → fr (cQ h) y y1 → Tt (fun K t => c_X7_markParts vl K t 6 (nI vs) (nI s) 0 0 0 0 h y1) Q := by
        intro y1 h1 h2 hf
        refine u_X7_markParts_6 ?_; unfold cm_X7_markParts_6
        rw [nI_1]
        exact ih (s + 1) y1 (by omega) h1 h2 hf
      refine u_X7_markParts_1 ?_; unfold cm_X7_markParts_1
      refine w_leF (by omega) (by omega) (w_crI (nH_6 hh) rfl (by omega) (h1 s) (w_if (fun e => ?_) (fun e => ?_)))
      · rw [if_pos e] at eo
        generalize (mp_out N vs F0 s).2 = q at *
        generalize (mp_out N vs F0 s).1 = F at *
        have addq : ∀ {y1 : ow_MS} {t : ow_PQ} {v : Nat}, mp_ok vs t → rwC y1 (h + 6) t.1 → (∀ j, j < t.2.2 → y1.2.1 (h + 7) j = nI (t.2.1 j)) → t.1 v = -1 → rwC (usI (usI y1 (h + 6) v (nI q)) (h + 7) t.2.2 (nI v)) (h + 6) (mp_add (nI q) t v).1 ∧ (∀ j, j < (mp_add (nI q) t v).2.2 → (usI (usI y1 (h + 6) v (nI q)) (h + 7) t.2.2 (nI v)).2.1 (h + 7) j = nI ((mp_add (nI q) t v).2.1 j)) ∧ (mp_add (nI q) t v).2.2 = t.2.2 + 1 := by
          intro y1 t v hok r1 r2 e1
          unfold mp_add
          rw [if_pos e1]
          refine ⟨rwC_ot (by omega) (rwC_su r1), fun j hj => ?_, rfl⟩
          show _ = nI (if j = t.2.2 then v else t.2.1 j)
          by_cases e2 : j = t.2.2
          · rw [if_pos e2, e2]
            exact po_usI_at
          · rw [if_neg e2]
            have hj : j < t.2.2 + 1 := hj
            exact rd_ne e2 (rd_ot (by omega) (r2 j (by omega)))
        have cnt : ∀ {t : ow_PQ} {v : Nat}, mp_ok vs t → v < vs → t.1 v = -1 → t.2.2 < vs := by
          intro t v hok hv e1
          have := (mp_add_ok (k := 0) (by omega) hok hv).2
          unfold mp_add at this
          rw [if_pos e1] at this
          have h9 : t.2.2 + 1 + cntU (su t.1 v (nI 0)) vs ≤ vs := this
          omega
        have c2 : ∀ (n i : Nat) (t : ow_PQ) (y1 : ow_MS), i + n = vs → mp_ok vs t → rwC y1 (h + 6) t.1 → (∀ j, j < t.2.2 → y1.2.1 (h + 7) j = nI (t.2.1 j)) → y1.1 (h + 11) = nI q → fr (cQ h) y y1 → (mp_bfs N (nI q) n i t).1 = (mp_out N vs F0 (s + 1)).1 → Tt (fun K t' => c_X7_markParts vl K t' 2 (nI vs) (nI s) (nI t.2.2) (nI i) 0 0 h y1) Q := by
          intro n
          have fin : ∀ (t : ow_PQ) (y1 : ow_MS) (x3 x4 : Int32), rwC y1 (h + 6) t.1 → y1.1 (h + 11) = nI q → fr (cQ h) y y1 → t.1 = (mp_out N vs F0 (s + 1)).1 → Tt (fun K t' => c_X7_markParts vl K t' 5 (nI vs) (nI s) x3 x4 0 0 h y1) Q := by
            intro t y1 x3 x4 r1 r2 hf em
            refine u_X7_markParts_5 ?_; unfold cm_X7_markParts_5
            refine w_rdF r2 ?_
            rw [nI_1]
            refine w_wrF (k6 _ (by rw [← em]; exact r1) ?_ (fr_F2 hf (Or.inr (Or.inr rfl))))
            rw [eo]
            exact po_usF_at
          induction n with
          | zero =>
            intro i t y1 hi hok r1 r3 r2 hf em
            have hc : t.2.2 ≤ vs := by have := hok.2; omega
            refine u_X7_markParts_2 ?_; unfold cm_X7_markParts_2
            exact w_leT (by omega) (by omega) (fin t y1 _ _ r1 r2 hf em)
          | succ n ihn =>
            intro i t y1 hi hok r1 r3 r2 hf em
            have hc : t.2.2 ≤ vs := by have := hok.2; omega
            have em : (if i < t.2.2 then mp_bfs N (nI q) n (i + 1) (mp_add (nI q) (mp_add (nI q) t (N (t.2.1 i))) (mt (t.2.1 i))) else t).1 = _ := em
            by_cases hit : i < t.2.2
            · rw [if_pos hit] at em
              have hqi := hok.1 i hit
              have hNv : N (t.2.1 i) < vs := hN _ hqi
              have hmt : mt (t.2.1 i) < vs := by
                rw [← hvv]
                exact mt_lt (by omega)
              have hok1 : mp_ok vs (mp_add (nI q) t (N (t.2.1 i))) := mp_add_ok (k := q) (by omega) hok hNv
              have hok2 := mp_add_ok (k := q) (by omega) hok1 hmt
              have hc1 : (mp_add (nI q) t (N (t.2.1 i))).2.2 ≤ vs := by have := hok1.2; omega
              have k4 : ∀ (x5 x6 : Int32) (y1 : ow_MS), rwC y1 (h + 6) (mp_add (nI q) (mp_add (nI q) t (N (t.2.1 i))) (mt (t.2.1 i))).1 → (∀ j, j < (mp_add (nI q) (mp_add (nI q) t (N (t.2.1 i))) (mt (t.2.1 i))).2.2 → y1.2.1 (h + 7) j = nI ((mp_add (nI q) (mp_add (nI q) t (N (t.2.1 i))) (mt (t.2.1 i))).2.1 j)) → y1.1 (h + 11) = nI q → fr (cQ h) y y1 → Tt (fun K t' => c_X7_markParts vl K t' 4 (nI vs) (nI s) (nI (mp_add (nI q) (mp_add (nI q) t (N (t.2.1 i))) (mt (t.2.1 i))).2.2) (nI i) x5 x6 h y1) Q := by
                intro x5 x6 y1 r1 r3 r2 hf
                refine u_X7_markParts_4 ?_; unfold cm_X7_markParts_4
                rw [nI_1]
                exact ihn (i + 1) _ y1 (by omega) hok2 r1 r3 r2 hf em
              have k3 : ∀ (x5 : Int32) (y1 : ow_MS), rwC y1 (h + 6) (mp_add (nI q) t (N (t.2.1 i))).1 → (∀ j, j < (mp_add (nI q) t (N (t.2.1 i))).2.2 → y1.2.1 (h + 7) j = nI ((mp_add (nI q) t (N (t.2.1 i))).2.1 j)) → y1.1 (h + 11) = nI q → fr (cQ h) y y1 → Tt (fun K t' => c_X7_markParts vl K t' 3 (nI vs) (nI s) (nI (mp_add (nI q) t (N (t.2.1 i))).2.2) (nI i) x5 (nI (mt (t.2.1 i))) h y1) Q := by
                intro x5 y1 r1 r3 r2 hf
                generalize mp_add (nI q) t (N (t.2.1 i)) = t1 at *
                refine u_X7_markParts_3 ?_; unfold cm_X7_markParts_3
                refine w_crI (nH_6 hh) rfl (by omega) (r1 _) (w_if (fun e1 => ?_) (fun e1 => ?_))
                · have hlt := cnt hok1 hmt e1
                  obtain ⟨a1, a2, a3⟩ := addq hok1 r1 r3 e1
                  have := k4 x5 (nI (mt (t.2.1 i))) _ a1 a2 r2 (fr_I2 (fr_I2 hf (Or.inl rfl)) (Or.inr (Or.inl rfl)))
                  rw [a3] at this
                  refine w_rdF r2 (w_ctI (nH_6 hh) rfl (by omega) (w_ctI (nH_7 hh) rfl (by omega) ?_))
                  rw [nI_1]
                  exact this
                · have e2 : mp_add (nI q) t1 (mt (t.2.1 i)) = t1 := by
                    unfold mp_add
                    rw [if_neg e1]
                  rw [e2] at k4
                  exact k4 _ _ y1 r1 r3 r2 hf
              refine u_X7_markParts_2 ?_; unfold cm_X7_markParts_2
              refine w_leF (by omega) (by omega) (w_leF (by omega) (by omega) (w_crI (nH_7 hh) rfl (by omega) (r3 i hit) (w_crI (nH_1 hh) rfl (by omega) ((cAy hf).2.2.1 _) (w_crI (nH_7 hh) rfl (by omega) (r3 i hit) (w_crI (nH_6 hh) rfl (by show N (t.2.1 i) < 24; omega) (r1 _) ?_)))))
              rw [xor1 ⟨t.2.1 i, by omega⟩]
              refine w_if (fun e1 => ?_) (fun e1 => ?_)
              · have hlt := cnt hok hNv e1
                obtain ⟨a1, a2, a3⟩ := addq hok r1 r3 e1
                have := k3 (nI (N (t.2.1 i))) _ a1 a2 r2 (fr_I2 (fr_I2 hf (Or.inl rfl)) (Or.inr (Or.inl rfl)))
                rw [a3] at this
                refine w_rdF r2 (w_ctI (nH_6 hh) rfl (by show N (t.2.1 i) < 24; omega) (w_ctI (nH_7 hh) rfl (by omega) ?_))
                rw [nI_1]
                exact this
              · have e2 : mp_add (nI q) t (N (t.2.1 i)) = t := by
                  unfold mp_add
                  rw [if_neg e1]
                rw [e2] at k3
                exact k3 _ y1 r1 r3 r2 hf
            · rw [if_neg hit] at em
              refine u_X7_markParts_2 ?_; unfold cm_X7_markParts_2
              exact w_leT (by omega) (by omega) (fin t y1 _ _ r1 r2 hf em)
        refine w_ctI (i := 0) (nH_7 hh) rfl (by omega) (w_rdF h2 (w_ctI (nH_6 hh) rfl (by omega) ?_))
        have hok0 : mp_ok vs (su F s (nI q), (fun _ => s), 1) := by
          refine ⟨fun j _ => by show s < vs; omega, ?_⟩
          have c8 := cntU_su e (rn_neg1 (v := q) (by omega)) vs (by omega)
          have c9 := cntU_le F vs
          show 1 + cntU (su F s (nI q)) vs ≤ vs
          omega
        exact c2 vs 0 (su F s (nI q), (fun _ => s), 1) _ (by omega) hok0 (rwC_su (rwC_ot (by omega) h1)) (fun j hj => by
          have hj : j < 1 := hj
          rw [show j = 0 by omega]
          exact rd_ot (by omega) po_usI_at) h2 (fr_I2 (fr_I2 hf (Or.inr (Or.inl rfl))) (Or.inl rfl)) (by rw [eo])
      · rw [if_neg e] at eo
        refine k6 y1 ?_ ?_ hf
        · rw [eo]
          exact h1
        · rw [eo]
          exact h2
  refine e_X7_markParts ?_
  refine u_X7_markParts_0 ?_; unfold cm_X7_markParts_0
  refine w_rdF hy.1 ?_
  rw [show (2 : Int32) * nI T.1 = nI (2 * T.1) from pk_mul 2 _, hvv]
  refine w_cs0 (tc_fill (a := 0) (nH_6 hh) (by omega) (show vs ≤ 24 by omega) (by omega)) ?_
  rintro y1 ⟨h1, f1⟩
  refine w_wrF (c1 vs 0 _ (by omega) (fun k => ?_) po_usF_at (fr_F2 (fr_mono (fun g hg => Or.inl hg) f1) (Or.inr (Or.inr rfl))))
  rw [← hF0]
  exact h1 k
end CM
