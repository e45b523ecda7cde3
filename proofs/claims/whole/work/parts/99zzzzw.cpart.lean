/-! the class: append, partOnce, partAll -/
def np_app (N M : Nat → Nat) (o n : Nat) : Nat → Nat := fun k => if o ≤ k ∧ k < o + n then o + M (k - o) else N k
theorem app_0 {N M : Nat → Nat} {o k : Nat} : np_app N M o 0 k = N k := by
  unfold np_app
  rw [if_neg (by omega)]
section CA
variable {vl : Nat → Nat} {y : ow_MS} {h g : Nat} {T R : ow_NT}
theorem app_st {F : Nat → Int32} {N M : Nat → Nat} {o n : Nat} {y : ow_MS} {q : Nat} (hF : ∀ k, y.2.1 q k = nI (np_app N M o n k)) : ∀ k, (usI y q (o + n) (nI (o + M n))).2.1 q k = nI (np_app N M o (n + 1) k) := by
  intro k
  by_cases e : k = o + n
  · rw [e]
    unfold np_app
    rw [if_pos (by omega), show o + n - o = n by omega]
    exact po_usI_at
  · refine rd_ne e ((hF k).trans ?_)
    unfold np_app
    by_cases h1 : o ≤ k ∧ k < o + n
    · rw [if_pos h1, if_pos (by omega)]
    · rw [if_neg h1, if_neg (by omega)]
theorem u_X7_append_1 {vl : Nat → Nat} {x2 : Int32} {x3 : Int32} {r0 : Nat} {r1 : Nat} {z : ow_MS} {Q : ow_MS → Prop} (H : Tt (fun K k => cm_X7_append_1 vl K (c_X7_append vl K k) x2 x3 r0 r1 z) Q) : Tt (fun K k => c_X7_append vl K k 1 x2 x3 r0 r1 z) Q := w_un (fun _ _ => rfl) H
theorem e_X7_append {vl : Nat → Nat} {r0 : Nat} {r1 : Nat} {z : ow_MS} {Q : ow_MS → Prop} (H : Tt (fun K k => c_X7_append vl K k 0 0 0 r0 r1 z) Q) : Te (fun K => ce_X7_append vl K r0 r1 z) Q := w_te H
theorem u_X7_append_0 {vl : Nat → Nat} {x2 : Int32} {x3 : Int32} {r0 : Nat} {r1 : Nat} {z : ow_MS} {Q : ow_MS → Prop} (H : Tt (fun K k => cm_X7_append_0 vl K (c_X7_append vl K k) x2 x3 r0 r1 z) Q) : Tt (fun K k => c_X7_append vl K k 0 x2 x3 r0 r1 z) Q := w_un (fun _ _ => rfl) H
theorem tc_append (hh : nH h) (hg : nH g) (hd : nDj h g) (hy : cAt y h T) (hr : cAt y g R) (hT : T.1 + R.1 ≤ 12) : Te (fun K => ce_X7_append vl K h g y) (fun y1 => cAt y1 h (T.1 + R.1, T.2.1 + R.2.1, (np_app T.2.2.1.1 R.2.2.1.1 (2 * T.1) (2 * R.1), np_app T.2.2.1.2 R.2.2.1.2 (2 * T.1) (2 * R.1)), va_cpy R.2.2.2 T.2.2.2 0 T.1 R.1) ∧ fr (cP h) y y1) := by
  unfold nDj at hd
  let Q : ow_MS → Prop := fun y1 => cAt y1 h (T.1 + R.1, T.2.1 + R.2.1, (np_app T.2.2.1.1 R.2.2.1.1 (2 * T.1) (2 * R.1), np_app T.2.2.1.2 R.2.2.1.2 (2 * T.1) (2 * R.1)), va_cpy R.2.2.2 T.2.2.2 0 T.1 R.1) ∧ fr (cP h) y y1
  have gR : ∀ {y1 : ow_MS}, fr (cP h) y y1 → cAt y1 g R := fun hf => cAt_fr hf (fun q hq hr => by unfold cP at hq hr; omega) hr
  have c1 : ∀ (d i : Nat) (y1 : ow_MS), i + d = 2 * R.1 → cAt y1 h (T.1, T.2.1, (np_app T.2.2.1.1 R.2.2.1.1 (2 * T.1) i, np_app T.2.2.1.2 R.2.2.1.2 (2 * T.1) i), T.2.2.2) → fr (cP h) y y1 → Tt (fun K t => c_X7_append vl K t 1 (nI (2 * T.1)) (nI i) h g y1) Q := by
    intro d
    induction d with
    | zero =>
      intro i y1 hi h1 hf
      have ei : i = 2 * R.1 := by omega
      subst ei
      obtain ⟨a, b, c, d, e⟩ := h1
      obtain ⟨a', b', c', d', e'⟩ := gR hf
      refine u_X7_append_1 ?_; unfold cm_X7_append_1
      refine w_rdF a' ?_
      rw [show (2 : Int32) * nI R.1 = nI (2 * R.1) from pk_mul 2 _]
      refine w_leT (by omega) (by omega) (w_rdF (x := nI T.1) a (w_rdF a' (w_cpI (a := 0) (nH_3 hg) (nH_3 hh) rfl rfl rfl (by omega) (by omega) (w_rdF (x := nI T.1) a (w_rdF (x := nI R.1) a' ?_)))))
      rw [nI_add]
      refine w_wrF (w_rdF (x := nI T.2.1) (rf_ot (by omega) b) (w_rdF (x := nI R.2.1) (rf_ot (by omega) b') ?_))
      rw [nI_add]
      refine w_wrF (w_some ⟨⟨rf_ot (by omega) po_usF_at, po_usF_at, fun k => ?_, fun k => ?_, fun k => ?_⟩, fr_F2 (fr_F2 (fr_R2 hf (Or.inl (by omega))) (Or.inr (Or.inl rfl))) (Or.inr (Or.inr rfl))⟩)
      · show (usR y1 (h + 3) _).2.1 (h + 1) k = _
        rw [usR_ot (by omega)]
        exact c k
      · show (usR y1 (h + 3) _).2.1 (h + 2) k = _
        rw [usR_ot (by omega)]
        exact d k
      · show (usR y1 (h + 3) _).2.1 (h + 3) k = _
        rw [usR_at]
        exact cpy_eq e' e
    | succ d ih =>
      intro i y1 hi h1 hf
      obtain ⟨a, b, c, d9, e⟩ := h1
      obtain ⟨a', b', c', d', e'⟩ := gR hf
      refine u_X7_append_1 ?_; unfold cm_X7_append_1
      refine w_rdF a' ?_
      rw [show (2 : Int32) * nI R.1 = nI (2 * R.1) from pk_mul 2 _, nI_add (2 * T.1) i, nI_1]
      refine w_leF (by omega) (by omega) (w_crI (nH_1 hg) rfl (by omega) (c' i) ?_)
      rw [nI_add]
      refine w_ctI (nH_1 hh) rfl (by omega) (w_crI (nH_2 hg) rfl (by omega) (rd_ot (by omega) (d' i)) ?_)
      rw [nI_add]
      exact w_ctI (nH_2 hh) rfl (by omega) (ih (i + 1) _ (by omega) ⟨a, b, fun k => rd_ot (by omega) (app_st (F := fun _ => 0) c k), app_st (F := fun _ => 0) (fun k => rd_ot (by omega) (d9 k)), fun k => rd_ot (by omega) (rd_ot (by omega) (e k))⟩ (fr_I2 (fr_I2 hf (Or.inl (by omega))) (Or.inl (by omega))))
  refine e_X7_append ?_
  refine u_X7_append_0 ?_; unfold cm_X7_append_0
  refine w_rdF hy.1 ?_
  rw [show (2 : Int32) * nI T.1 = nI (2 * T.1) from pk_mul 2 _]
  obtain ⟨a, b, c, d, e⟩ := hy
  refine c1 (2 * R.1) 0 y (by omega) ⟨a, b, fun k => ?_, fun k => ?_, e⟩ fr_rf
  · show _ = nI (np_app _ _ _ 0 k)
    rw [app_0]
    exact c k
  · show _ = nI (np_app _ _ _ 0 k)
    rw [app_0]
    exact d k
end CA
