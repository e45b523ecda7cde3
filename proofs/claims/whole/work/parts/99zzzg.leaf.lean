/-! leaf -/
theorem i32_as (x y c : Int32) : x + (y - c) = x + y - c := by
  rw [Int32.sub_eq_add_neg, ← Int32.add_assoc, ← Int32.sub_eq_add_neg]
/-- where a term stands -/
theorem lf_ix {j k t a : Nat} (hj : j ≤ 12) (hk : k ≤ j + 5) (ht : t ≤ k) (ha : 16 ≤ a) (ha2 : a ≤ 64) : 129 * (nI j - nI k + 20) + (nI a - 40) + 2 * nI t - nI k + 64 = nI (129 * (j + 20 - k) + a + 2 * t + 24 - k) := by
  have e1 : nI j - nI k + 20 = nI (j + 20 - k) := by
    have h1 : nI j - nI k + 20 = nI j + 20 - nI k := by
      rw [Int32.sub_eq_add_neg, Int32.add_assoc, Int32.add_comm (-nI k) 20, ← Int32.add_assoc, ← Int32.sub_eq_add_neg]
    rw [h1, show nI j + 20 = nI (j + 20) from nI_add j 20]
    exact pk_sub (by omega)
  rw [e1, show (129 : Int32) * nI (j + 20 - k) = nI (129 * (j + 20 - k)) from pk_mul 129 _, i32_as, nI_add, show nI (129 * (j + 20 - k) + a) - 40 = nI (129 * (j + 20 - k) + a - 40) from pk_sub (b := 40) (by omega), rn_mul2, nI_add, pk_sub (by omega), show nI (129 * (j + 20 - k) + a - 40 + 2 * t - k) + 64 = nI (129 * (j + 20 - k) + a - 40 + 2 * t - k + 64) from nI_add _ 64]
  congr 1
  omega
section LF
variable {z : ow_MS}
theorem u_X13_leaf_1 {x1 : Int32} {x4 : Int32} {x5 : Int32} {x6 : Int32} {x9 : Int32} {w2 : Int64} {w7 : Int64} {t2 : Int32} {y0 : Int64} {y1 : Int64} {z : ow_MS} {Q : ow_MS → Prop} (H : Tt (fun K k => qm_X13_leaf_1 K (q_X13_leaf K k) x1 x4 x5 x6 x9 w2 w7 t2 y0 y1 z) Q) : Tt (fun K k => q_X13_leaf K k 1 x1 x4 x5 x6 x9 w2 w7 t2 y0 y1 z) Q := w_un (fun _ _ => rfl) H
theorem u_X13_leaf_2 {x1 : Int32} {x4 : Int32} {x5 : Int32} {x6 : Int32} {x9 : Int32} {w2 : Int64} {w7 : Int64} {t2 : Int32} {y0 : Int64} {y1 : Int64} {z : ow_MS} {Q : ow_MS → Prop} (H : Tt (fun K k => qm_X13_leaf_2 K (q_X13_leaf K k) x1 x4 x5 x6 x9 w2 w7 t2 y0 y1 z) Q) : Tt (fun K k => q_X13_leaf K k 2 x1 x4 x5 x6 x9 w2 w7 t2 y0 y1 z) Q := w_un (fun _ _ => rfl) H
theorem e_X13_leaf {x1 : Int32} {w2 : Int64} {x4 : Int32} {x5 : Int32} {z : ow_MS} {Q : ow_MS → Prop} (H : Tt (fun K k => q_X13_leaf K k 0 x1 x4 x5 0 0 w2 0 0 0 0 z) Q) : Te (fun K => qe_X13_leaf K x1 w2 x4 x5 z) Q := w_te H
theorem u_X13_leaf_0 {x1 : Int32} {x4 : Int32} {x5 : Int32} {x6 : Int32} {x9 : Int32} {w2 : Int64} {w7 : Int64} {t2 : Int32} {y0 : Int64} {y1 : Int64} {z : ow_MS} {Q : ow_MS → Prop} (H : Tt (fun K k => qm_X13_leaf_0 K (q_X13_leaf K k) x1 x4 x5 x6 x9 w2 w7 t2 y0 y1 z) Q) : Tt (fun K k => q_X13_leaf K k 0 x1 x4 x5 x6 x9 w2 w7 t2 y0 y1 z) Q := w_un (fun _ _ => rfl) H
theorem tp_leaf {c j a : Nat} {s : Int64} (hc : 1 ≤ c) (hcj : c ≤ j + 6) (hj : j ≤ 12) (ha : 16 ≤ a) (ha2 : a ≤ 64) : Te (fun K => qe_X13_leaf K (nI c) s (nI a - 40) (nI j) z) (fun z1 => fr (fun g => g = 42 ∨ g = 44) z z1) := by
  have key : ∀ (d t : Nat) (w : Int64) (y : ow_MS), t + d = c → fr (fun g => g = 42 ∨ g = 44) z y → Tt (fun K i => q_X13_leaf K i 1 (nI c) (nI a - 40) (nI j) (nI (c - 1)) (nI t) s w 0 0 0 y) (fun z1 => fr (fun g => g = 42 ∨ g = 44) z z1) := by
    intro d
    induction d with
    | zero =>
      intro t w y ht hf
      refine u_X13_leaf_1 ?_; unfold qm_X13_leaf_1
      exact w_ltT (by omega) (by omega) (w_some hf)
    | succ d ih =>
      intro t w y ht hf
      have ix := lf_ix (j := j) (k := c - 1) (t := t) (a := a) hj (by omega) (by omega) ha ha2
      have hlt : 129 * (j + 20 - (c - 1)) + a + 2 * t + 24 - (c - 1) < 5289 := by omega
      have c2 : ∀ (y0 y1 : Int64), Tt (fun K i => q_X13_leaf K i 2 (nI c) (nI a - 40) (nI j) (nI (c - 1)) (nI t) s w (nI (129 * (j + 20 - (c - 1)) + a + 2 * t + 24 - (c - 1))) y0 y1 y) (fun z1 => fr (fun g => g = 42 ∨ g = 44) z z1) := by
        intro y0 y1
        refine u_X13_leaf_2 ?_; unfold qm_X13_leaf_2
        rw [nI_1]
        have hnz : (nI (t + 1)).toInt64 ≠ 0 := by
          rw [nI_l (by omega)]
          exact fun e => by
            have := (pk_lEQ (a := t + 1) (b := 0) (by omega) (by omega)).mp e
            omega
        exact w_wrJ ml44 rfl hlt (w_nzJ hnz (ih (t + 1) _ _ (by omega) (fr_J2 hf (Or.inr rfl))))
      refine u_X13_leaf_1 ?_; unfold qm_X13_leaf_1
      rw [ix]
      exact w_ltF (by omega) (by omega) (w_rdJ ml44 rfl hlt rfl (w_if (fun _ => c2 _ _) (fun _ => c2 _ _)))
  refine e_X13_leaf ?_
  refine u_X13_leaf_0 ?_; unfold qm_X13_leaf_0
  rw [show nI c - 1 = nI (c - 1) from pk_sub (b := 1) hc]
  exact w_rdF rfl (w_if (fun _ => w_rdJ ml42 rfl (by omega) rfl (w_if (fun _ => w_wrJ ml42 rfl (by omega) (w_some (fr_J (Or.inl rfl)))) (fun _ => w_wrJ ml42 rfl (by omega) (w_some (fr_J (Or.inl rfl)))))) (fun _ => key c 0 s z (by omega) fr_rf))
end LF
