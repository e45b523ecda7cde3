section
/-! 99zzx.try -/
/-! tryMoves, moves, moved, simplify, way -/
section MV5
variable {X : (Nat → Nat → Int32) → Prop} {bb m n : Nat} {z : ow_MS} {A : rn_L} {sg : Nat → Bool}
abbrev frT (n g : Nat) : Prop := g < 1000 ∧ g ≠ 12 ∧ g ≠ 28 ∨ 3001 ≤ g ∧ g ≤ 3016 ∨ n + 12 ≤ g ∧ g ≤ n + 16
theorem u_X13_tryMoves_1 {x2 : Int32} {x3 : Int32} {r1 : Nat} {z : ow_MS} {Q : ow_MS → Prop} (H : Tt (fun K k => qm_X13_tryMoves_1 K (q_X13_tryMoves K k) x2 x3 r1 z) Q) : Tt (fun K k => q_X13_tryMoves K k 1 x2 x3 r1 z) Q := w_un (fun _ _ => rfl) H
theorem u_X13_tryMoves_2 {x2 : Int32} {x3 : Int32} {r1 : Nat} {z : ow_MS} {Q : ow_MS → Prop} (H : Tt (fun K k => qm_X13_tryMoves_2 K (q_X13_tryMoves K k) x2 x3 r1 z) Q) : Tt (fun K k => q_X13_tryMoves K k 2 x2 x3 r1 z) Q := w_un (fun _ _ => rfl) H
theorem e_X13_tryMoves {r1 : Nat} {x2 : Int32} {z : ow_MS} {Q : ow_MS → Prop} (H : Tt (fun K k => q_X13_tryMoves K k 0 x2 0 r1 z) Q) : Te (fun K => qe_X13_tryMoves K r1 x2 z) Q := w_te H
theorem u_X13_tryMoves_0 {x2 : Int32} {x3 : Int32} {r1 : Nat} {z : ow_MS} {Q : ow_MS → Prop} (H : Tt (fun K k => qm_X13_tryMoves_0 K (q_X13_tryMoves K k) x2 x3 r1 z) Q) : Tt (fun K k => q_X13_tryMoves K k 0 x2 x3 r1 z) Q := w_un (fun _ _ => rfl) H
/-- out of a row of diagrams into cur -/
theorem to_unpack {h o la : Nat} (hh : h < 1000) (hla : (mX.2 h).2.1 = la) (ha : la < 2 ^ 30) (ho : o + 32 ≤ la) (hv : vRow z h o A sg) : Te (fun K => qe_X13_unpack K h (nI o) 1000 z) (fun z1 => rn_At z1 1000 A [] ∧ rn_sg z1 1000 A.flatten sg ∧ fr (fun g => 1001 ≤ g ∧ g ≤ 1006) z z1) := by
  obtain ⟨h1, ⟨c, h2, h3⟩, h4⟩ := hv
  have hl := okF_len h2
  have hll := h1.1
  have hw := okF_wk (by omega) h2
  exact w_monoE (tr_unpack pn1 hh hla ha (by omega) (by omega) (by omega) (fun p hp => ⟨(hw.2 p hp).1, (hw.2 p hp).2.1⟩) h1) (fun z1 ⟨g1, g2, g3⟩ => ⟨g1, g2, fr_mono (fun g hg => by omega) g3⟩)
theorem to_link {z0 : ow_MS} {h o : Nat} (hv : vRow z0 h o A sg) (h1 : rn_At z 1000 A []) (h2 : rn_sg z 1000 A.flatten sg) : Te (fun K => qe_X12_link K 1000 z) (fun z1 => oNet z1 1000 A sg ∧ fr (fun g => 1007 ≤ g ∧ g ≤ 1011) z z1) := by
  obtain ⟨-, ⟨c, h5, h3⟩, h4⟩ := hv
  have hl := okF_len h5
  have hw := okF_wk (by omega) h5
  refine w_monoE (tn_link pn1 (by omega) (by omega) (wkF_ok hw).1 h1) (fun z1 ⟨f1, f2, f3⟩ => ⟨⟨⟨f2, f3⟩, fun p hp => ?_, ⟨c, h5, h3⟩, h4⟩, fr_mono (fun g hg => by have := hg.1; have := hg.2; omega) f1⟩)
  rw [(f1 (1000 + 6) (fun h9 => by have := h9.1; omega)).2.1]
  exact h2 p hp
theorem u_X13_moves_1 {x1 : Int32} {x2 : Int32} {z : ow_MS} {Q : (Int32 × ow_MS) → Prop} (H : Tt (fun K k => qm_X13_moves_1 K (q_X13_moves K k) x1 x2 z) Q) : Tt (fun K k => q_X13_moves K k 1 x1 x2 z) Q := w_un (fun _ _ => rfl) H
theorem e_X13_moves {x1 : Int32} {x2 : Int32} {z : ow_MS} {Q : (Int32 × ow_MS) → Prop} (H : Tt (fun K k => q_X13_moves K k 0 x1 x2 z) Q) : Te (fun K => qe_X13_moves K x1 x2 z) Q := w_te H
theorem u_X13_moves_0 {x1 : Int32} {x2 : Int32} {z : ow_MS} {Q : (Int32 × ow_MS) → Prop} (H : Tt (fun K k => qm_X13_moves_0 K (q_X13_moves K k) x1 x2 z) Q) : Tt (fun K k => q_X13_moves K k 0 x1 x2 z) Q := w_un (fun _ _ => rfl) H
theorem u_X13_moved_1 {x1 : Int32} {z : ow_MS} {Q : (Int32 × ow_MS) → Prop} (H : Tt (fun K k => qm_X13_moved_1 K (q_X13_moved K k) x1 z) Q) : Tt (fun K k => q_X13_moved K k 1 x1 z) Q := w_un (fun _ _ => rfl) H
theorem e_X13_moved {x1 : Int32} {z : ow_MS} {Q : (Int32 × ow_MS) → Prop} (H : Tt (fun K k => q_X13_moved K k 0 x1 z) Q) : Te (fun K => qe_X13_moved K x1 z) Q := w_te H
theorem u_X13_moved_0 {x1 : Int32} {z : ow_MS} {Q : (Int32 × ow_MS) → Prop} (H : Tt (fun K k => qm_X13_moved_0 K (q_X13_moved K k) x1 z) Q) : Tt (fun K k => q_X13_moved K k 0 x1 z) Q := w_un (fun _ _ => rfl) H
/-- a row is copied out of the places -/
theorem cp_row {z1 : ow_MS} {h d : Nat} (hv : vRow z 12 (32 * d) A sg) (hc : ∀ i, i < (tk sg A).length + 1 → z1.2.1 h i = z.2.1 12 (32 * d + i)) : vRow z1 h 0 A sg := by
  refine ⟨⟨hv.1.1, hv.1.2.1, ?_, fun i t hi => ?_⟩, hv.2⟩
  · have := hc 0 (by omega)
    rw [Nat.add_zero] at this
    rw [this]
    exact hv.1.2.2.1
  · have := (List.getElem?_eq_some_iff.mp hi).1
    rw [Nat.zero_add, hc (i + 1) (by omega)]
    exact hv.1.2.2.2 i t hi
theorem e_X13_simplify {x1 : Int32} {z : ow_MS} {Q : (Int32 × ow_MS) → Prop} (H : Tt (fun K k => q_X13_simplify K k 0 x1 0 0 0 z) Q) : Te (fun K => qe_X13_simplify K x1 z) Q := w_te H
theorem u_X13_simplify_0 {x1 : Int32} {x2 : Int32} {x3 : Int32} {x4 : Int32} {z : ow_MS} {Q : (Int32 × ow_MS) → Prop} (H : Tt (fun K k => qm_X13_simplify_0 K (q_X13_simplify K k) x1 x2 x3 x4 z) Q) : Tt (fun K k => q_X13_simplify K k 0 x1 x2 x3 x4 z) Q := w_un (fun _ _ => rfl) H
theorem u_X13_simplify_5 {x1 : Int32} {x2 : Int32} {x3 : Int32} {x4 : Int32} {z : ow_MS} {Q : (Int32 × ow_MS) → Prop} (H : Tt (fun K k => qm_X13_simplify_5 K (q_X13_simplify K k) x1 x2 x3 x4 z) Q) : Tt (fun K k => q_X13_simplify K k 5 x1 x2 x3 x4 z) Q := w_un (fun _ _ => rfl) H
theorem u_X13_simplify_2 {x1 : Int32} {x2 : Int32} {x3 : Int32} {x4 : Int32} {z : ow_MS} {Q : (Int32 × ow_MS) → Prop} (H : Tt (fun K k => qm_X13_simplify_2 K (q_X13_simplify K k) x1 x2 x3 x4 z) Q) : Tt (fun K k => q_X13_simplify K k 2 x1 x2 x3 x4 z) Q := w_un (fun _ _ => rfl) H
theorem u_X13_simplify_4 {x1 : Int32} {x2 : Int32} {x3 : Int32} {x4 : Int32} {z : ow_MS} {Q : (Int32 × ow_MS) → Prop} (H : Tt (fun K k => qm_X13_simplify_4 K (q_X13_simplify K k) x1 x2 x3 x4 z) Q) : Tt (fun K k => q_X13_simplify K k 4 x1 x2 x3 x4 z) Q := w_un (fun _ _ => rfl) H
theorem u_X13_simplify_3 {x1 : Int32} {x2 : Int32} {x3 : Int32} {x4 : Int32} {z : ow_MS} {Q : (Int32 × ow_MS) → Prop} (H : Tt (fun K k => qm_X13_simplify_3 K (q_X13_simplify K k) x1 x2 x3 x4 z) Q) : Tt (fun K k => q_X13_simplify K k 3 x1 x2 x3 x4 z) Q := w_un (fun _ _ => rfl) H
theorem u_X13_simplify_1 {x1 : Int32} {x2 : Int32} {x3 : Int32} {x4 : Int32} {z : ow_MS} {Q : (Int32 × ow_MS) → Prop} (H : Tt (fun K k => qm_X13_simplify_1 K (q_X13_simplify K k) x1 x2 x3 x4 z) Q) : Tt (fun K k => q_X13_simplify K k 1 x1 x2 x3 x4 z) Q := w_un (fun _ _ => rfl) H
theorem u_X13_way_1 {x1 : Int32} {x2 : Int32} {x3 : Int32} {x4 : Int32} {x5 : Int32} {x6 : Int32} {t0 : Int32} {z : ow_MS} {Q : (Int32 × ow_MS) → Prop} (H : Tt (fun K k => qm_X13_way_1 K (q_X13_way K k) x1 x2 x3 x4 x5 x6 t0 z) Q) : Tt (fun K k => q_X13_way K k 1 x1 x2 x3 x4 x5 x6 t0 z) Q := w_un (fun _ _ => rfl) H
theorem u_X13_way_2 {x1 : Int32} {x2 : Int32} {x3 : Int32} {x4 : Int32} {x5 : Int32} {x6 : Int32} {t0 : Int32} {z : ow_MS} {Q : (Int32 × ow_MS) → Prop} (H : Tt (fun K k => qm_X13_way_2 K (q_X13_way K k) x1 x2 x3 x4 x5 x6 t0 z) Q) : Tt (fun K k => q_X13_way K k 2 x1 x2 x3 x4 x5 x6 t0 z) Q := w_un (fun _ _ => rfl) H
theorem e_X13_way {x1 : Int32} {x2 : Int32} {z : ow_MS} {Q : (Int32 × ow_MS) → Prop} (H : Tt (fun K k => q_X13_way K k 0 x1 x2 0 0 0 0 0 z) Q) : Te (fun K => qe_X13_way K x1 x2 z) Q := w_te H
theorem u_X13_way_0 {x1 : Int32} {x2 : Int32} {x3 : Int32} {x4 : Int32} {x5 : Int32} {x6 : Int32} {t0 : Int32} {z : ow_MS} {Q : (Int32 × ow_MS) → Prop} (H : Tt (fun K k => qm_X13_way_0 K (q_X13_way K k) x1 x2 x3 x4 x5 x6 t0 z) Q) : Tt (fun K k => q_X13_way K k 0 x1 x2 x3 x4 x5 x6 t0 z) Q := w_un (fun _ _ => rfl) H
theorem u_X13_way_9 {x1 : Int32} {x2 : Int32} {x3 : Int32} {x4 : Int32} {x5 : Int32} {x6 : Int32} {t0 : Int32} {z : ow_MS} {Q : (Int32 × ow_MS) → Prop} (H : Tt (fun K k => qm_X13_way_9 K (q_X13_way K k) x1 x2 x3 x4 x5 x6 t0 z) Q) : Tt (fun K k => q_X13_way K k 9 x1 x2 x3 x4 x5 x6 t0 z) Q := w_un (fun _ _ => rfl) H
theorem u_X13_way_6 {x1 : Int32} {x2 : Int32} {x3 : Int32} {x4 : Int32} {x5 : Int32} {x6 : Int32} {t0 : Int32} {z : ow_MS} {Q : (Int32 × ow_MS) → Prop} (H : Tt (fun K k => qm_X13_way_6 K (q_X13_way K k) x1 x2 x3 x4 x5 x6 t0 z) Q) : Tt (fun K k => q_X13_way K k 6 x1 x2 x3 x4 x5 x6 t0 z) Q := w_un (fun _ _ => rfl) H
theorem u_X13_way_7 {x1 : Int32} {x2 : Int32} {x3 : Int32} {x4 : Int32} {x5 : Int32} {x6 : Int32} {t0 : Int32} {z : ow_MS} {Q : (Int32 × ow_MS) → Prop} (H : Tt (fun K k => qm_X13_way_7 K (q_X13_way K k) x1 x2 x3 x4 x5 x6 t0 z) Q) : Tt (fun K k => q_X13_way K k 7 x1 x2 x3 x4 x5 x6 t0 z) Q := w_un (fun _ _ => rfl) H
theorem u_X13_way_8 {x1 : Int32} {x2 : Int32} {x3 : Int32} {x4 : Int32} {x5 : Int32} {x6 : Int32} {t0 : Int32} {z : ow_MS} {Q : (Int32 × ow_MS) → Prop} (H : Tt (fun K k => qm_X13_way_8 K (q_X13_way K k) x1 x2 x3 x4 x5 x6 t0 z) Q) : Tt (fun K k => q_X13_way K k 8 x1 x2 x3 x4 x5 x6 t0 z) Q := w_un (fun _ _ => rfl) H
theorem u_X13_way_5 {x1 : Int32} {x2 : Int32} {x3 : Int32} {x4 : Int32} {x5 : Int32} {x6 : Int32} {t0 : Int32} {z : ow_MS} {Q : (Int32 × ow_MS) → Prop} (H : Tt (fun K k => qm_X13_way_5 K (q_X13_way K k) x1 x2 x3 x4 x5 x6 t0 z) Q) : Tt (fun K k => q_X13_way K k 5 x1 x2 x3 x4 x5 x6 t0 z) Q := w_un (fun _ _ => rfl) H
theorem u_X13_way_4 {x1 : Int32} {x2 : Int32} {x3 : Int32} {x4 : Int32} {x5 : Int32} {x6 : Int32} {t0 : Int32} {z : ow_MS} {Q : (Int32 × ow_MS) → Prop} (H : Tt (fun K k => qm_X13_way_4 K (q_X13_way K k) x1 x2 x3 x4 x5 x6 t0 z) Q) : Tt (fun K k => q_X13_way K k 4 x1 x2 x3 x4 x5 x6 t0 z) Q := w_un (fun _ _ => rfl) H
theorem u_X13_way_3 {x1 : Int32} {x2 : Int32} {x3 : Int32} {x4 : Int32} {x5 : Int32} {x6 : Int32} {t0 : Int32} {z : ow_MS} {Q : (Int32 × ow_MS) → Prop} (H : Tt (fun K k => qm_X13_way_3 K (q_X13_way K k) x1 x2 x3 x4 x5 x6 t0 z) Q) : Tt (fun K k => q_X13_way K k 3 x1 x2 x3 x4 x5 x6 t0 z) Q := w_un (fun _ _ => rfl) H
end MV5
end
