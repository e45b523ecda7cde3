/-! rank -/
theorem rk_ix {x : Int64} {y : Int32} (h1 : ¬ lg_cmp x 0 < 0) (h2 : ¬ 0 < lg_cmp x 9) (h3 : ¬ y < -40) (h4 : y < 40) : ∃ i, i < 800 ∧ 80 * x.toInt32 + y + 40 = nI i := by
  obtain ⟨a, ha, rfl⟩ := pk_lOf (fun h => h1 ((lg_cmp_lt _ _).mpr h))
  have h6 : a ≤ 9 := by
    rcases Nat.lt_or_ge 9 a with q | q
    · exact absurd ((lg_cmp_gt _ _).mpr ((pk_lLT (a := 9) (by decide) ha).mpr q)) h2
    · exact q
  have h7 : -40 ≤ y.toInt := Int32.le_iff_toInt_le.mp (Int32.not_lt.mp h3)
  have h8 : y.toInt < 40 := Int32.lt_iff_toInt_lt.mp h4
  have h9 : (y + 40).toInt = y.toInt + 40 := by
    rw [Int32.toInt_add, show (40 : Int32).toInt = 40 from by decide]
    exact Int.bmod_eq_of_le (by omega) (by omega)
  obtain ⟨b, hb, e⟩ := vp_in_of (x := y + 40) (n := 80) (vp_in_iff.mpr ⟨by omega, by omega⟩) (by decide)
  refine ⟨80 * a + b, by omega, ?_⟩
  rw [lN_i, Int32.add_assoc, e]
  have e1 : 80 * nI a = nI (80 * a) := pk_mul 80 a
  rw [e1, nI_add]
section RK
variable {X : (Nat → Nat → Int32) → Prop} {z : ow_MS}
theorem u_X13_rank_1 {x1 : Int32} {x2 : Int32} {w3 : Int64} {z : ow_MS} {Q : (Int32 × ow_MS) → Prop} (H : Tt (fun K k => qm_X13_rank_1 K (q_X13_rank K k) x1 x2 w3 z) Q) : Tt (fun K k => q_X13_rank K k 1 x1 x2 w3 z) Q := w_un (fun _ _ => rfl) H
theorem e_X13_rank {x1 : Int32} {x2 : Int32} {z : ow_MS} {Q : (Int32 × ow_MS) → Prop} (H : Tt (fun K k => q_X13_rank K k 0 x1 x2 0 z) Q) : Te (fun K => qe_X13_rank K x1 x2 z) Q := w_te H
theorem u_X13_rank_0 {x1 : Int32} {x2 : Int32} {w3 : Int64} {z : ow_MS} {Q : (Int32 × ow_MS) → Prop} (H : Tt (fun K k => qm_X13_rank_0 K (q_X13_rank K k) x1 x2 w3 z) Q) : Tt (fun K k => q_X13_rank K k 0 x1 x2 w3 z) Q := w_un (fun _ _ => rfl) H
theorem tp_rank {i q : Int32} (h : gI X z) : Te (fun K => qe_X13_rank K i q z) (fun r => gI X r.2) := by
  have h1 := gI_1 (c := 0) h
  have c1 : ∀ w : Int64, Tt (fun K k => q_X13_rank K k 1 i q w (usF z 1 0)) (fun r => gI X r.2) := by
    intro w
    refine u_X13_rank_1 ?_; unfold qm_X13_rank_1
    exact w_some h1
  refine e_X13_rank ?_
  refine u_X13_rank_0 ?_; unfold qm_X13_rank_0
  refine w_wrF (w_rdF rfl (w_if (fun _ => c1 _) (fun a1 => w_if (fun _ => c1 _) (fun a2 => w_if (fun _ => c1 _) (fun a3 => w_if (fun a4 => ?_) (fun _ => c1 _))))))
  obtain ⟨k, hk, e⟩ := rk_ix a1 a2 a3 a4
  exact w_rdI ml87 e hk rfl (w_some h1)
end RK
