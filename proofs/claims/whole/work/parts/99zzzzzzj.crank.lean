/-! the class: rank has an answer -/
theorem rk_c {x w : Int64} (h1 : ¬ lg_cmp x 0 < 0) (h2 : ¬ 0 < lg_cmp x 8) (h3 : ¬ lg_cmp w 0 < 0) (h4 : lg_cmp w 56 < 0) : ∃ i, i < 504 ∧ (x * 56 + w).toInt32 = nI i := by
  obtain ⟨a, ha, rfl⟩ := pk_lOf (fun h => h1 ((lg_cmp_lt _ _).mpr h))
  obtain ⟨b, hb, rfl⟩ := pk_lOf (fun h => h3 ((lg_cmp_lt _ _).mpr h))
  have h6 : a ≤ 8 := by
    rcases Nat.lt_or_ge 8 a with q | q
    · exact absurd ((lg_cmp_gt _ _).mpr ((pk_lLT (a := 8) (by decide) ha).mpr q)) h2
    · exact q
  have h7 : b < 56 := (pk_lLT hb (by decide : 56 < 2 ^ 63)).mp ((lg_cmp_lt _ _).mp h4)
  refine ⟨a * 56 + b, by omega, ?_⟩
  have key : ∀ (a : Fin 9) (b : Fin 56), (lN a.val * 56 + lN b.val).toInt32 = nI (a.val * 56 + b.val) := by decide +kernel
  exact key ⟨a, by omega⟩ ⟨b, h7⟩
section CRK
variable {vl : Nat → Nat} {y : ow_MS} {x x' : Int32}
theorem ch_43018 : ((cX vl).2 43018).2.1 = 504 := rfl
theorem u_X1_rankAt_1 {vl : Nat → Nat} {x1 : Int32} {x2 : Int32} {w3 : Int64} {w5 : Int64} {r0 : Nat} {z : ow_MS} {Q : (Int32 × ow_MS) → Prop} (H : Tt (fun K k => cm_X1_rankAt_1 vl K (c_X1_rankAt vl K k) x1 x2 w3 w5 r0 z) Q) : Tt (fun K k => c_X1_rankAt vl K k 1 x1 x2 w3 w5 r0 z) Q := w_un (fun _ _ => rfl) H
theorem e_X1_rankAt {vl : Nat → Nat} {r0 : Nat} {x1 : Int32} {x2 : Int32} {z : ow_MS} {Q : (Int32 × ow_MS) → Prop} (H : Tt (fun K k => c_X1_rankAt vl K k 0 x1 x2 0 0 r0 z) Q) : Te (fun K => ce_X1_rankAt vl K r0 x1 x2 z) Q := w_te H
theorem u_X1_rankAt_0 {vl : Nat → Nat} {x1 : Int32} {x2 : Int32} {w3 : Int64} {w5 : Int64} {r0 : Nat} {z : ow_MS} {Q : (Int32 × ow_MS) → Prop} (H : Tt (fun K k => cm_X1_rankAt_0 vl K (c_X1_rankAt vl K k) x1 x2 w3 w5 r0 z) Q) : Tt (fun K k => c_X1_rankAt vl K k 0 x1 x2 w3 w5 r0 z) Q := w_un (fun _ _ => rfl) H
theorem tc_rankAt : Te (fun K => ce_X1_rankAt vl K 43000 x x' y) (fun r => r.2 = y) := by
  have c1 : ∀ a b : Int64, Tt (fun K t => c_X1_rankAt vl K t 1 x x' a b 43000 y) (fun r => r.2 = y) := by
    intro a b
    refine u_X1_rankAt_1 ?_; unfold cm_X1_rankAt_1
    exact w_some rfl
  refine e_X1_rankAt ?_
  refine u_X1_rankAt_0 ?_; unfold cm_X1_rankAt_0
  refine w_rdF rfl (w_rdF rfl (w_rdF rfl (w_if (fun _ => c1 _ _) (fun a1 => w_if (fun _ => c1 _ _) (fun a2 => w_if (fun _ => c1 _ _) (fun a3 => w_if (fun a4 => ?_) (fun _ => c1 _ _)))))))
  obtain ⟨k, hk, e⟩ := rk_c a1 a2 a3 a4
  exact w_crI ch_43018 e hk rfl (w_some rfl)
theorem e_X11_rank {vl : Nat → Nat} {r0 : Nat} {x1 : Int32} {x2 : Int32} {z : ow_MS} {Q : (Int32 × ow_MS) → Prop} (H : Tt (fun K _ => cm_X11_rank_0 vl K x1 x2 r0 z) Q) : Te (fun K => ce_X11_rank vl K r0 x1 x2 z) Q := w_te0 H
theorem tc_rank : Te (fun K => ce_X11_rank vl K 0 x x' y) (fun r => r.2 = y) := by
  refine e_X11_rank ?_; unfold cm_X11_rank_0
  refine w_cs1 tc_rankAt ?_
  rintro v z e
  exact w_some e
end CRK
