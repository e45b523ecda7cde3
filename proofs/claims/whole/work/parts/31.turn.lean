/-! word reversing, a step at a time -/
theorem ow_rv_next {fu sz i w : Nat} (h : ow_rv (fu + 1) sz i w = true) : (¬ i + 1 < sz) ∨ (i + 1 < sz ∧ ((¬ (8 ≤ ow_dg w i ∧ ow_dg w (i + 1) < 8) ∧ ow_rv fu sz (i + 1) w = true) ∨ (8 ≤ ow_dg w i ∧ ow_dg w (i + 1) < 8 ∧ ((ow_dg w i = ow_dg w (i + 1) + 8 ∧ ow_rv fu (sz - 2) 0 (ow_enc (ow_del w i) (sz - 2)) = true) ∨ (¬ ow_dg w i = ow_dg w (i + 1) + 8 ∧ (ow_dg w i = ow_dg w (i + 1) + 9 ∨ ow_dg w i + 1 = ow_dg w (i + 1) + 8) ∧ sz + 2 ≤ 40 ∧ ow_rv fu (sz + 2) 0 (ow_enc (ow_ins w i) (sz + 2)) = true) ∨ (¬ ow_dg w i = ow_dg w (i + 1) + 8 ∧ ¬ (ow_dg w i = ow_dg w (i + 1) + 9 ∨ ow_dg w i + 1 = ow_dg w (i + 1) + 8) ∧ ow_rv fu sz 0 (ow_enc (ow_swp w i) sz) = true))))) := by
  rw [ow_rv] at h
  by_cases h1 : i + 1 < sz
  · rw [if_pos h1] at h
    refine Or.inr ⟨h1, ?_⟩
    by_cases h2 : 8 ≤ ow_dg w i ∧ ow_dg w (i + 1) < 8
    · rw [if_pos h2] at h
      refine Or.inr ⟨h2.1, h2.2, ?_⟩
      by_cases h3 : ow_dg w i = ow_dg w (i + 1) + 8
      · rw [if_pos h3, ow_frc_eq] at h
        exact Or.inl ⟨h3, h⟩
      · rw [if_neg h3] at h
        by_cases h4 : ow_dg w i = ow_dg w (i + 1) + 9 ∨ ow_dg w i + 1 = ow_dg w (i + 1) + 8
        · rw [if_pos h4] at h
          by_cases h5 : sz + 2 ≤ 40
          · rw [if_pos h5, ow_frc_eq] at h
            exact Or.inr (Or.inl ⟨h3, h4, h5, h⟩)
          · rw [if_neg h5] at h
            exact absurd h Bool.false_ne_true
        · rw [if_neg h4, ow_frc_eq] at h
          exact Or.inr (Or.inr ⟨h3, h4, h⟩)
    · rw [if_neg h2] at h
      exact Or.inl ⟨h2, h⟩
  · exact Or.inl h1
theorem ow_del16 (w i t : Nat) : ow_del w i t < 16 := by
  unfold ow_del
  split <;> exact ow_dg16 _ _
theorem ow_swp16 (w i t : Nat) : ow_swp w i t < 16 := by
  unfold ow_swp
  split
  · exact ow_dg16 _ _
  split <;> exact ow_dg16 _ _
theorem ow_ins16 (w i t : Nat) : ow_ins w i t < 16 := by
  unfold ow_ins
  split
  · exact ow_dg16 _ _
  split
  · exact ow_dg16 _ _
  split
  · exact Nat.lt_of_le_of_lt (Nat.sub_le _ _) (ow_dg16 _ _)
  split
  · exact Nat.mod_lt _ (by decide)
  split <;> exact ow_dg16 _ _
theorem ow_del_ok {w i sz : Nat} (hok : ∀ t, t < sz → ow_ok (ow_dg w t)) (h1 : i + 1 < sz) : ∀ t, t < sz - 2 → ow_ok (ow_dg (ow_enc (ow_del w i) (sz - 2)) t) := fun t ht => by
  rw [ow_dg_enc (ow_del16 w i) _ t ht]
  unfold ow_del
  split
  · exact hok t (by omega)
  · exact hok (t + 2) (by omega)
theorem ow_swp_ok {w i sz : Nat} (hok : ∀ t, t < sz → ow_ok (ow_dg w t)) (h1 : i + 1 < sz) : ∀ t, t < sz → ow_ok (ow_dg (ow_enc (ow_swp w i) sz) t) := fun t ht => by
  rw [ow_dg_enc (ow_swp16 w i) _ t ht]
  unfold ow_swp
  split
  · exact hok (i + 1) h1
  split
  · exact hok i (by omega)
  · exact hok t ht
theorem ow_ins_ok {w i sz : Nat} (hok : ∀ t, t < sz → ow_ok (ow_dg w t)) (h1 : i + 1 < sz) (g2 : 8 ≤ ow_dg w i) (g3 : ow_dg w (i + 1) < 8) : ∀ t, t < sz + 2 → ow_ok (ow_dg (ow_enc (ow_ins w i) (sz + 2)) t) := fun t ht => by
  rw [ow_dg_enc (ow_ins16 w i) _ t ht]
  have a1 : (1 ≤ ow_dg w i ∧ ow_dg w i ≤ 4) ∨ (9 ≤ ow_dg w i ∧ ow_dg w i ≤ 12) := hok i (by omega)
  have a2 : (1 ≤ ow_dg w (i + 1) ∧ ow_dg w (i + 1) ≤ 4) ∨ (9 ≤ ow_dg w (i + 1) ∧ ow_dg w (i + 1) ≤ 12) := hok (i + 1) h1
  unfold ow_ins
  split
  · exact hok t (by omega)
  split
  · exact hok (i + 1) h1
  split
  · exact Or.inl ⟨by omega, by omega⟩
  split
  · exact Or.inr ⟨by omega, by omega⟩
  split
  · exact hok i (by omega)
  · exact hok (t - 2) (by omega)
theorem ow_swpG {f0 f1 f2 : Nat → Int32} {w i sz : Nat} (g3 : ow_dg w (i + 1) < 8) (h0 : ∀ t, t < sz → f0 t = ow_sg (ow_dg w t)) (e1 : f1 (i + 1) = ow_sg (ow_dg w i)) (n1 : ∀ k, k ≠ i + 1 → f1 k = f0 k) (e2 : f2 i = nI (ow_dg w (i + 1))) (n2 : ∀ k, k ≠ i → f2 k = f1 k) : ∀ t, t < sz → f2 t = ow_sg (ow_dg (ow_enc (ow_swp w i) sz) t) := fun t ht => by
  rw [ow_dg_enc (ow_swp16 w i) _ t ht]
  unfold ow_swp
  by_cases q1 : t = i
  · rw [if_pos q1, q1, e2]
    exact (ow_sgJ _ g3).symm
  by_cases q2 : t = i + 1
  · rw [if_neg q1, if_pos q2, n2 t q1, q2, e1]
  · rw [if_neg q1, if_neg q2, n2 t q1, n1 t q2]
    exact h0 t ht
theorem ow_insG {f0 f1 f2 f3 f4 : Nat → Int32} {w i sz : Nat} (g2 : 8 ≤ ow_dg w i) (g3 : ow_dg w (i + 1) < 8) (hA : ∀ u, i + 1 < u → u < sz → f0 (u + 2) = ow_sg (ow_dg w u)) (hB : ∀ u, u ≤ i + 1 → f0 u = ow_sg (ow_dg w u)) (e1 : f1 (i + 1) = nI (ow_dg w i - 8)) (n1 : ∀ k, k ≠ i + 1 → f1 k = f0 k) (e2 : f2 (i + 2) = ow_sg (ow_dg w (i + 1) + 8)) (n2 : ∀ k, k ≠ i + 2 → f2 k = f1 k) (e3 : f3 (i + 3) = ow_sg (ow_dg w i)) (n3 : ∀ k, k ≠ i + 3 → f3 k = f2 k) (e4 : f4 i = nI (ow_dg w (i + 1))) (n4 : ∀ k, k ≠ i → f4 k = f3 k) : ∀ t, t < sz + 2 → f4 t = ow_sg (ow_dg (ow_enc (ow_ins w i) (sz + 2)) t) := fun t ht => by
  rw [ow_dg_enc (ow_ins16 w i) _ t ht]
  have b1 := ow_dg16 w i
  unfold ow_ins
  by_cases q0 : t < i
  · rw [if_pos q0, n4 t (by omega), n3 t (by omega), n2 t (by omega), n1 t (by omega)]
    exact hB t (by omega)
  by_cases q1 : t = i
  · rw [if_neg q0, if_pos q1, q1, e4]
    exact (ow_sgJ _ g3).symm
  by_cases q2 : t = i + 1
  · rw [if_neg q0, if_neg q1, if_pos q2, n4 t q1, n3 t (by omega), n2 t (by omega), q2, e1]
    exact (ow_sgJ _ (by omega)).symm
  by_cases q3 : t = i + 2
  · rw [if_neg q0, if_neg q1, if_neg q2, if_pos q3, n4 t q1, n3 t (by omega), q3, e2, Nat.mod_eq_of_lt (by omega)]
  by_cases q4 : t = i + 3
  · rw [if_neg q0, if_neg q1, if_neg q2, if_neg q3, if_pos q4, n4 t q1, q4, e3]
  · rw [if_neg q0, if_neg q1, if_neg q2, if_neg q3, if_neg q4, n4 t q1, n3 t q4, n2 t q3, n1 t q2]
    have h9 := hA (t - 2) (by omega) (by omega)
    rw [show t - 2 + 2 = t by omega] at h9
    exact h9
theorem ow_pm (a r : Nat) (h : 1 ≤ a + r) : nI a + (nI r - 1) = nI (a + r - 1) := by
  rw [Int32.sub_eq_add_neg, ← Int32.add_assoc, ← Int32.sub_eq_add_neg, nI_add]
  exact pk_sub (a := a + r) (b := 1) h
theorem ow_dec1 (a : Nat) : nI (a + 1) + (-1) = nI a := (Int32.sub_eq_add_neg (nI (a + 1)) 1).symm.trans (nI_pred a)
theorem ow_dec2 {a : Nat} (h : 2 ≤ a) : nI a + (-2) = nI (a - 2) := (Int32.sub_eq_add_neg (nI a) 2).symm.trans (pk_sub (b := 2) h)
theorem ow_m1lt : ∀ t, t < 64 → nI 0 - 1 < nI t := by decide +kernel
theorem ow_abs0 : ∀ a, a < 8 → ∀ b, b < 8 → a = b → (if 0 ≤ nI a - nI b then nI a - nI b else 0 - (nI a - nI b)) = 0 := by decide +kernel
theorem ow_abs1 : ∀ a, a < 8 → ∀ b, b < 8 → (a = b + 1 ∨ a + 1 = b) → (if 0 ≤ nI a - nI b then nI a - nI b else 0 - (nI a - nI b)) = 1 := by decide +kernel
theorem ow_ne01 : ∀ d, d < 8 → 2 ≤ d → ¬ nI d = 0 ∧ ¬ nI d = 1 := by decide +kernel
theorem ow_abs2 (a : Nat) (ha : a < 8) (b : Nat) (hb : b < 8) (h1 : ¬ a = b) (h2 : ¬ (a = b + 1 ∨ a + 1 = b)) : ¬ (if 0 ≤ nI a - nI b then nI a - nI b else 0 - (nI a - nI b)) = 0 ∧ ¬ (if 0 ≤ nI a - nI b then nI a - nI b else 0 - (nI a - nI b)) = 1 := by
  rw [ow_abs a ha b hb]
  refine ow_ne01 _ ?_ ?_
  · split <;> omega
  · split <;> omega
theorem ow_subsg {X d : Nat} (hd : d < 16) (hok : ow_ok d) (hX : 4 ≤ X) : ∃ Y, nI X - ow_sg d = nI Y ∧ X ≤ Y + 4 ∧ Y ≤ X + 4 := by
  have a1 : (1 ≤ d ∧ d ≤ 4) ∨ (9 ≤ d ∧ d ≤ 12) := hok
  rcases Nat.lt_or_ge d 8 with q | q
  · refine ⟨X - d, ?_, by omega, by omega⟩
    rw [ow_sgJ d q]
    exact pk_sub (by omega)
  · refine ⟨X + (d - 8), ?_, by omega, by omega⟩
    rw [← ow_sgK d hd q, Int32.sub_eq_add_neg, Int32.neg_sub, Int32.sub_zero]
    exact nI_add X (d - 8)
theorem dX13_turnRound_0 : decode cX13_turnRound 0 = .ok (.bipush 120, 2) := by decide +kernel
theorem dX13_turnRound_2 : decode cX13_turnRound 2 = .ok (.iload_n 1, 1) := by decide +kernel
theorem dX13_turnRound_3 : decode cX13_turnRound 3 = .ok (.imul, 1) := by decide +kernel
theorem dX13_turnRound_4 : decode cX13_turnRound 4 = .ok (.iload_n 2, 1) := by decide +kernel
theorem dX13_turnRound_5 : decode cX13_turnRound 5 = .ok (.iadd, 1) := by decide +kernel
theorem dX13_turnRound_6 : decode cX13_turnRound 6 = .ok (.istore 4, 2) := by decide +kernel
theorem dX13_turnRound_8 : decode cX13_turnRound 8 = .ok (.iconst 0, 1) := by decide +kernel
theorem dX13_turnRound_9 : decode cX13_turnRound 9 = .ok (.istore 5, 2) := by decide +kernel
theorem dX13_turnRound_11 : decode cX13_turnRound 11 = .ok (.aload_n 0, 1) := by decide +kernel
theorem dX13_turnRound_12 : decode cX13_turnRound 12 = .ok (.getfield 338, 3) := by decide +kernel
theorem dX13_turnRound_15 : decode cX13_turnRound 15 = .ok (.iload 4, 2) := by decide +kernel
theorem dX13_turnRound_17 : decode cX13_turnRound 17 = .ok (.iaload, 1) := by decide +kernel
theorem dX13_turnRound_18 : decode cX13_turnRound 18 = .ok (.iconst 1, 1) := by decide +kernel
theorem dX13_turnRound_19 : decode cX13_turnRound 19 = .ok (.isub, 1) := by decide +kernel
theorem dX13_turnRound_20 : decode cX13_turnRound 20 = .ok (.istore 6, 2) := by decide +kernel
theorem dX13_turnRound_22 : decode cX13_turnRound 22 = .ok (.iload 6, 2) := by decide +kernel
theorem dX13_turnRound_24 : decode cX13_turnRound 24 = .ok (.ifCond .lt 34, 3) := by decide +kernel
theorem dX13_turnRound_27 : decode cX13_turnRound 27 = .ok (.aload_n 0, 1) := by decide +kernel
theorem dX13_turnRound_28 : decode cX13_turnRound 28 = .ok (.getfield 359, 3) := by decide +kernel
theorem dX13_turnRound_31 : decode cX13_turnRound 31 = .ok (.iload 5, 2) := by decide +kernel
theorem dX13_turnRound_33 : decode cX13_turnRound 33 = .ok (.iconst (-1), 1) := by decide +kernel
theorem dX13_turnRound_34 : decode cX13_turnRound 34 = .ok (.aload_n 0, 1) := by decide +kernel
theorem dX13_turnRound_35 : decode cX13_turnRound 35 = .ok (.getfield 335, 3) := by decide +kernel
theorem dX13_turnRound_38 : decode cX13_turnRound 38 = .ok (.bipush 10, 2) := by decide +kernel
theorem dX13_turnRound_40 : decode cX13_turnRound 40 = .ok (.iload 4, 2) := by decide +kernel
theorem dX13_turnRound_42 : decode cX13_turnRound 42 = .ok (.imul, 1) := by decide +kernel
theorem dX13_turnRound_43 : decode cX13_turnRound 43 = .ok (.iload 6, 2) := by decide +kernel
theorem dX13_turnRound_45 : decode cX13_turnRound 45 = .ok (.iadd, 1) := by decide +kernel
theorem dX13_turnRound_46 : decode cX13_turnRound 46 = .ok (.iaload, 1) := by decide +kernel
theorem dX13_turnRound_47 : decode cX13_turnRound 47 = .ok (.isub, 1) := by decide +kernel
theorem dX13_turnRound_48 : decode cX13_turnRound 48 = .ok (.iastore, 1) := by decide +kernel
theorem dX13_turnRound_49 : decode cX13_turnRound 49 = .ok (.iinc 5 1, 3) := by decide +kernel
theorem dX13_turnRound_52 : decode cX13_turnRound 52 = .ok (.iinc 6 (-1), 3) := by decide +kernel
theorem dX13_turnRound_55 : decode cX13_turnRound 55 = .ok (.goto (-33), 3) := by decide +kernel
theorem dX13_turnRound_58 : decode cX13_turnRound 58 = .ok (.aload_n 0, 1) := by decide +kernel
theorem dX13_turnRound_59 : decode cX13_turnRound 59 = .ok (.getfield 359, 3) := by decide +kernel
theorem dX13_turnRound_62 : decode cX13_turnRound 62 = .ok (.iload 5, 2) := by decide +kernel
theorem dX13_turnRound_64 : decode cX13_turnRound 64 = .ok (.iconst 1, 1) := by decide +kernel
theorem dX13_turnRound_65 : decode cX13_turnRound 65 = .ok (.iload_n 3, 1) := by decide +kernel
theorem dX13_turnRound_66 : decode cX13_turnRound 66 = .ok (.iadd, 1) := by decide +kernel
theorem dX13_turnRound_67 : decode cX13_turnRound 67 = .ok (.iastore, 1) := by decide +kernel
theorem dX13_turnRound_68 : decode cX13_turnRound 68 = .ok (.iinc 5 1, 3) := by decide +kernel
theorem dX13_turnRound_71 : decode cX13_turnRound 71 = .ok (.iconst 0, 1) := by decide +kernel
theorem dX13_turnRound_72 : decode cX13_turnRound 72 = .ok (.istore 6, 2) := by decide +kernel
theorem dX13_turnRound_74 : decode cX13_turnRound 74 = .ok (.iload 6, 2) := by decide +kernel
theorem dX13_turnRound_76 : decode cX13_turnRound 76 = .ok (.iconst 1, 1) := by decide +kernel
theorem dX13_turnRound_77 : decode cX13_turnRound 77 = .ok (.iadd, 1) := by decide +kernel
theorem dX13_turnRound_78 : decode cX13_turnRound 78 = .ok (.iload 5, 2) := by decide +kernel
theorem dX13_turnRound_80 : decode cX13_turnRound 80 = .ok (.if_icmp .ge 223, 3) := by decide +kernel
theorem dX13_turnRound_83 : decode cX13_turnRound 83 = .ok (.aload_n 0, 1) := by decide +kernel
theorem dX13_turnRound_84 : decode cX13_turnRound 84 = .ok (.getfield 359, 3) := by decide +kernel
theorem dX13_turnRound_87 : decode cX13_turnRound 87 = .ok (.iload 6, 2) := by decide +kernel
theorem dX13_turnRound_89 : decode cX13_turnRound 89 = .ok (.iaload, 1) := by decide +kernel
theorem dX13_turnRound_90 : decode cX13_turnRound 90 = .ok (.ifCond .ge 207, 3) := by decide +kernel
theorem dX13_turnRound_93 : decode cX13_turnRound 93 = .ok (.aload_n 0, 1) := by decide +kernel
theorem dX13_turnRound_94 : decode cX13_turnRound 94 = .ok (.getfield 359, 3) := by decide +kernel
theorem dX13_turnRound_97 : decode cX13_turnRound 97 = .ok (.iload 6, 2) := by decide +kernel
theorem dX13_turnRound_99 : decode cX13_turnRound 99 = .ok (.iconst 1, 1) := by decide +kernel
theorem dX13_turnRound_100 : decode cX13_turnRound 100 = .ok (.iadd, 1) := by decide +kernel
theorem dX13_turnRound_101 : decode cX13_turnRound 101 = .ok (.iaload, 1) := by decide +kernel
theorem dX13_turnRound_102 : decode cX13_turnRound 102 = .ok (.ifCond .le 195, 3) := by decide +kernel
theorem dX13_turnRound_105 : decode cX13_turnRound 105 = .ok (.iconst 0, 1) := by decide +kernel
theorem dX13_turnRound_106 : decode cX13_turnRound 106 = .ok (.aload_n 0, 1) := by decide +kernel
theorem dX13_turnRound_107 : decode cX13_turnRound 107 = .ok (.getfield 359, 3) := by decide +kernel
theorem dX13_turnRound_110 : decode cX13_turnRound 110 = .ok (.iload 6, 2) := by decide +kernel
theorem dX13_turnRound_112 : decode cX13_turnRound 112 = .ok (.iaload, 1) := by decide +kernel
theorem dX13_turnRound_113 : decode cX13_turnRound 113 = .ok (.isub, 1) := by decide +kernel
theorem dX13_turnRound_114 : decode cX13_turnRound 114 = .ok (.istore 7, 2) := by decide +kernel
theorem dX13_turnRound_116 : decode cX13_turnRound 116 = .ok (.aload_n 0, 1) := by decide +kernel
theorem dX13_turnRound_117 : decode cX13_turnRound 117 = .ok (.getfield 359, 3) := by decide +kernel
theorem dX13_turnRound_120 : decode cX13_turnRound 120 = .ok (.iload 6, 2) := by decide +kernel
theorem dX13_turnRound_122 : decode cX13_turnRound 122 = .ok (.iconst 1, 1) := by decide +kernel
theorem dX13_turnRound_123 : decode cX13_turnRound 123 = .ok (.iadd, 1) := by decide +kernel
theorem dX13_turnRound_124 : decode cX13_turnRound 124 = .ok (.iaload, 1) := by decide +kernel
theorem dX13_turnRound_125 : decode cX13_turnRound 125 = .ok (.istore 8, 2) := by decide +kernel
theorem dX13_turnRound_127 : decode cX13_turnRound 127 = .ok (.iload 7, 2) := by decide +kernel
theorem dX13_turnRound_129 : decode cX13_turnRound 129 = .ok (.iload 8, 2) := by decide +kernel
theorem dX13_turnRound_131 : decode cX13_turnRound 131 = .ok (.isub, 1) := by decide +kernel
theorem dX13_turnRound_132 : decode cX13_turnRound 132 = .ok (.invokestatic 734, 3) := by decide +kernel
theorem dX13_turnRound_135 : decode cX13_turnRound 135 = .ok (.istore 9, 2) := by decide +kernel
theorem dX13_turnRound_137 : decode cX13_turnRound 137 = .ok (.iload 9, 2) := by decide +kernel
theorem dX13_turnRound_139 : decode cX13_turnRound 139 = .ok (.ifCond .ne 44, 3) := by decide +kernel
theorem dX13_turnRound_142 : decode cX13_turnRound 142 = .ok (.iload 6, 2) := by decide +kernel
theorem dX13_turnRound_144 : decode cX13_turnRound 144 = .ok (.istore 10, 2) := by decide +kernel
theorem dX13_turnRound_146 : decode cX13_turnRound 146 = .ok (.iload 10, 2) := by decide +kernel
theorem dX13_turnRound_148 : decode cX13_turnRound 148 = .ok (.iconst 2, 1) := by decide +kernel
theorem dX13_turnRound_149 : decode cX13_turnRound 149 = .ok (.iadd, 1) := by decide +kernel
theorem dX13_turnRound_150 : decode cX13_turnRound 150 = .ok (.iload 5, 2) := by decide +kernel
theorem dX13_turnRound_152 : decode cX13_turnRound 152 = .ok (.if_icmp .ge 25, 3) := by decide +kernel
theorem dX13_turnRound_155 : decode cX13_turnRound 155 = .ok (.aload_n 0, 1) := by decide +kernel
theorem dX13_turnRound_156 : decode cX13_turnRound 156 = .ok (.getfield 359, 3) := by decide +kernel
theorem dX13_turnRound_159 : decode cX13_turnRound 159 = .ok (.iload 10, 2) := by decide +kernel
theorem dX13_turnRound_161 : decode cX13_turnRound 161 = .ok (.aload_n 0, 1) := by decide +kernel
theorem dX13_turnRound_162 : decode cX13_turnRound 162 = .ok (.getfield 359, 3) := by decide +kernel
theorem dX13_turnRound_165 : decode cX13_turnRound 165 = .ok (.iload 10, 2) := by decide +kernel
theorem dX13_turnRound_167 : decode cX13_turnRound 167 = .ok (.iconst 2, 1) := by decide +kernel
theorem dX13_turnRound_168 : decode cX13_turnRound 168 = .ok (.iadd, 1) := by decide +kernel
theorem dX13_turnRound_169 : decode cX13_turnRound 169 = .ok (.iaload, 1) := by decide +kernel
theorem dX13_turnRound_170 : decode cX13_turnRound 170 = .ok (.iastore, 1) := by decide +kernel
theorem dX13_turnRound_171 : decode cX13_turnRound 171 = .ok (.iinc 10 1, 3) := by decide +kernel
theorem dX13_turnRound_174 : decode cX13_turnRound 174 = .ok (.goto (-28), 3) := by decide +kernel
theorem dX13_turnRound_177 : decode cX13_turnRound 177 = .ok (.iinc 5 (-2), 3) := by decide +kernel
theorem dX13_turnRound_180 : decode cX13_turnRound 180 = .ok (.goto 111, 3) := by decide +kernel
theorem dX13_turnRound_183 : decode cX13_turnRound 183 = .ok (.iload 9, 2) := by decide +kernel
theorem dX13_turnRound_185 : decode cX13_turnRound 185 = .ok (.iconst 1, 1) := by decide +kernel
theorem dX13_turnRound_186 : decode cX13_turnRound 186 = .ok (.if_icmp .ne 83, 3) := by decide +kernel
theorem dX13_turnRound_189 : decode cX13_turnRound 189 = .ok (.iload 5, 2) := by decide +kernel
theorem dX13_turnRound_191 : decode cX13_turnRound 191 = .ok (.iconst 1, 1) := by decide +kernel
theorem dX13_turnRound_192 : decode cX13_turnRound 192 = .ok (.isub, 1) := by decide +kernel
theorem dX13_turnRound_193 : decode cX13_turnRound 193 = .ok (.istore 10, 2) := by decide +kernel
theorem dX13_turnRound_195 : decode cX13_turnRound 195 = .ok (.iload 10, 2) := by decide +kernel
theorem dX13_turnRound_197 : decode cX13_turnRound 197 = .ok (.iload 6, 2) := by decide +kernel
theorem dX13_turnRound_199 : decode cX13_turnRound 199 = .ok (.iconst 2, 1) := by decide +kernel
theorem dX13_turnRound_200 : decode cX13_turnRound 200 = .ok (.iadd, 1) := by decide +kernel
theorem dX13_turnRound_201 : decode cX13_turnRound 201 = .ok (.if_icmp .lt 25, 3) := by decide +kernel
theorem dX13_turnRound_204 : decode cX13_turnRound 204 = .ok (.aload_n 0, 1) := by decide +kernel
theorem dX13_turnRound_205 : decode cX13_turnRound 205 = .ok (.getfield 359, 3) := by decide +kernel
theorem dX13_turnRound_208 : decode cX13_turnRound 208 = .ok (.iload 10, 2) := by decide +kernel
theorem dX13_turnRound_210 : decode cX13_turnRound 210 = .ok (.iconst 2, 1) := by decide +kernel
theorem dX13_turnRound_211 : decode cX13_turnRound 211 = .ok (.iadd, 1) := by decide +kernel
theorem dX13_turnRound_212 : decode cX13_turnRound 212 = .ok (.aload_n 0, 1) := by decide +kernel
theorem dX13_turnRound_213 : decode cX13_turnRound 213 = .ok (.getfield 359, 3) := by decide +kernel
theorem dX13_turnRound_216 : decode cX13_turnRound 216 = .ok (.iload 10, 2) := by decide +kernel
theorem dX13_turnRound_218 : decode cX13_turnRound 218 = .ok (.iaload, 1) := by decide +kernel
theorem dX13_turnRound_219 : decode cX13_turnRound 219 = .ok (.iastore, 1) := by decide +kernel
theorem dX13_turnRound_220 : decode cX13_turnRound 220 = .ok (.iinc 10 (-1), 3) := by decide +kernel
theorem dX13_turnRound_223 : decode cX13_turnRound 223 = .ok (.goto (-28), 3) := by decide +kernel
theorem dX13_turnRound_226 : decode cX13_turnRound 226 = .ok (.iinc 5 2, 3) := by decide +kernel
theorem dX13_turnRound_229 : decode cX13_turnRound 229 = .ok (.aload_n 0, 1) := by decide +kernel
theorem dX13_turnRound_230 : decode cX13_turnRound 230 = .ok (.getfield 359, 3) := by decide +kernel
theorem dX13_turnRound_233 : decode cX13_turnRound 233 = .ok (.iload 6, 2) := by decide +kernel
theorem dX13_turnRound_235 : decode cX13_turnRound 235 = .ok (.iconst 1, 1) := by decide +kernel
theorem dX13_turnRound_236 : decode cX13_turnRound 236 = .ok (.iadd, 1) := by decide +kernel
theorem dX13_turnRound_237 : decode cX13_turnRound 237 = .ok (.iload 7, 2) := by decide +kernel
theorem dX13_turnRound_239 : decode cX13_turnRound 239 = .ok (.iastore, 1) := by decide +kernel
theorem dX13_turnRound_240 : decode cX13_turnRound 240 = .ok (.aload_n 0, 1) := by decide +kernel
theorem dX13_turnRound_241 : decode cX13_turnRound 241 = .ok (.getfield 359, 3) := by decide +kernel
theorem dX13_turnRound_244 : decode cX13_turnRound 244 = .ok (.iload 6, 2) := by decide +kernel
theorem dX13_turnRound_246 : decode cX13_turnRound 246 = .ok (.iconst 2, 1) := by decide +kernel
theorem dX13_turnRound_247 : decode cX13_turnRound 247 = .ok (.iadd, 1) := by decide +kernel
theorem dX13_turnRound_248 : decode cX13_turnRound 248 = .ok (.iconst 0, 1) := by decide +kernel
theorem dX13_turnRound_249 : decode cX13_turnRound 249 = .ok (.iload 8, 2) := by decide +kernel
theorem dX13_turnRound_251 : decode cX13_turnRound 251 = .ok (.isub, 1) := by decide +kernel
theorem dX13_turnRound_252 : decode cX13_turnRound 252 = .ok (.iastore, 1) := by decide +kernel
theorem dX13_turnRound_253 : decode cX13_turnRound 253 = .ok (.aload_n 0, 1) := by decide +kernel
theorem dX13_turnRound_254 : decode cX13_turnRound 254 = .ok (.getfield 359, 3) := by decide +kernel
theorem dX13_turnRound_257 : decode cX13_turnRound 257 = .ok (.iload 6, 2) := by decide +kernel
theorem dX13_turnRound_259 : decode cX13_turnRound 259 = .ok (.iconst 3, 1) := by decide +kernel
theorem dX13_turnRound_260 : decode cX13_turnRound 260 = .ok (.iadd, 1) := by decide +kernel
theorem dX13_turnRound_261 : decode cX13_turnRound 261 = .ok (.iconst 0, 1) := by decide +kernel
theorem dX13_turnRound_262 : decode cX13_turnRound 262 = .ok (.iload 7, 2) := by decide +kernel
theorem dX13_turnRound_264 : decode cX13_turnRound 264 = .ok (.isub, 1) := by decide +kernel
theorem dX13_turnRound_265 : decode cX13_turnRound 265 = .ok (.iastore, 1) := by decide +kernel
theorem dX13_turnRound_266 : decode cX13_turnRound 266 = .ok (.goto 16, 3) := by decide +kernel
theorem dX13_turnRound_269 : decode cX13_turnRound 269 = .ok (.aload_n 0, 1) := by decide +kernel
theorem dX13_turnRound_270 : decode cX13_turnRound 270 = .ok (.getfield 359, 3) := by decide +kernel
theorem dX13_turnRound_273 : decode cX13_turnRound 273 = .ok (.iload 6, 2) := by decide +kernel
theorem dX13_turnRound_275 : decode cX13_turnRound 275 = .ok (.iconst 1, 1) := by decide +kernel
theorem dX13_turnRound_276 : decode cX13_turnRound 276 = .ok (.iadd, 1) := by decide +kernel
theorem dX13_turnRound_277 : decode cX13_turnRound 277 = .ok (.iconst 0, 1) := by decide +kernel
theorem dX13_turnRound_278 : decode cX13_turnRound 278 = .ok (.iload 7, 2) := by decide +kernel
theorem dX13_turnRound_280 : decode cX13_turnRound 280 = .ok (.isub, 1) := by decide +kernel
theorem dX13_turnRound_281 : decode cX13_turnRound 281 = .ok (.iastore, 1) := by decide +kernel
theorem dX13_turnRound_282 : decode cX13_turnRound 282 = .ok (.aload_n 0, 1) := by decide +kernel
theorem dX13_turnRound_283 : decode cX13_turnRound 283 = .ok (.getfield 359, 3) := by decide +kernel
theorem dX13_turnRound_286 : decode cX13_turnRound 286 = .ok (.iload 6, 2) := by decide +kernel
theorem dX13_turnRound_288 : decode cX13_turnRound 288 = .ok (.iload 8, 2) := by decide +kernel
theorem dX13_turnRound_290 : decode cX13_turnRound 290 = .ok (.iastore, 1) := by decide +kernel
theorem dX13_turnRound_291 : decode cX13_turnRound 291 = .ok (.iconst 0, 1) := by decide +kernel
theorem dX13_turnRound_292 : decode cX13_turnRound 292 = .ok (.istore 6, 2) := by decide +kernel
theorem dX13_turnRound_294 : decode cX13_turnRound 294 = .ok (.goto (-220), 3) := by decide +kernel
theorem dX13_turnRound_297 : decode cX13_turnRound 297 = .ok (.iinc 6 1, 3) := by decide +kernel
theorem dX13_turnRound_300 : decode cX13_turnRound 300 = .ok (.goto (-226), 3) := by decide +kernel
theorem dX13_turnRound_303 : decode cX13_turnRound 303 = .ok (.iconst 0, 1) := by decide +kernel
theorem dX13_turnRound_304 : decode cX13_turnRound 304 = .ok (.istore 7, 2) := by decide +kernel
theorem dX13_turnRound_306 : decode cX13_turnRound 306 = .ok (.iconst 0, 1) := by decide +kernel
theorem dX13_turnRound_307 : decode cX13_turnRound 307 = .ok (.istore 8, 2) := by decide +kernel
theorem dX13_turnRound_309 : decode cX13_turnRound 309 = .ok (.iload 8, 2) := by decide +kernel
theorem dX13_turnRound_311 : decode cX13_turnRound 311 = .ok (.iload 5, 2) := by decide +kernel
theorem dX13_turnRound_313 : decode cX13_turnRound 313 = .ok (.if_icmp .ge 45, 3) := by decide +kernel
theorem dX13_turnRound_316 : decode cX13_turnRound 316 = .ok (.aload_n 0, 1) := by decide +kernel
theorem dX13_turnRound_317 : decode cX13_turnRound 317 = .ok (.getfield 359, 3) := by decide +kernel
theorem dX13_turnRound_320 : decode cX13_turnRound 320 = .ok (.iload 8, 2) := by decide +kernel
theorem dX13_turnRound_322 : decode cX13_turnRound 322 = .ok (.iaload, 1) := by decide +kernel
theorem dX13_turnRound_323 : decode cX13_turnRound 323 = .ok (.ifCond .le 35, 3) := by decide +kernel
theorem dX13_turnRound_326 : decode cX13_turnRound 326 = .ok (.aload_n 0, 1) := by decide +kernel
theorem dX13_turnRound_327 : decode cX13_turnRound 327 = .ok (.getfield 341, 3) := by decide +kernel
theorem dX13_turnRound_330 : decode cX13_turnRound 330 = .ok (.iconst 4, 1) := by decide +kernel
theorem dX13_turnRound_331 : decode cX13_turnRound 331 = .ok (.bipush 120, 2) := by decide +kernel
theorem dX13_turnRound_333 : decode cX13_turnRound 333 = .ok (.iload_n 1, 1) := by decide +kernel
theorem dX13_turnRound_334 : decode cX13_turnRound 334 = .ok (.imul, 1) := by decide +kernel
theorem dX13_turnRound_335 : decode cX13_turnRound 335 = .ok (.iload 7, 2) := by decide +kernel
theorem dX13_turnRound_337 : decode cX13_turnRound 337 = .ok (.iadd, 1) := by decide +kernel
theorem dX13_turnRound_338 : decode cX13_turnRound 338 = .ok (.imul, 1) := by decide +kernel
theorem dX13_turnRound_339 : decode cX13_turnRound 339 = .ok (.aload_n 0, 1) := by decide +kernel
theorem dX13_turnRound_340 : decode cX13_turnRound 340 = .ok (.getfield 359, 3) := by decide +kernel
theorem dX13_turnRound_343 : decode cX13_turnRound 343 = .ok (.iload 8, 2) := by decide +kernel
theorem dX13_turnRound_345 : decode cX13_turnRound 345 = .ok (.iaload, 1) := by decide +kernel
theorem dX13_turnRound_346 : decode cX13_turnRound 346 = .ok (.iadd, 1) := by decide +kernel
theorem dX13_turnRound_347 : decode cX13_turnRound 347 = .ok (.iconst 1, 1) := by decide +kernel
theorem dX13_turnRound_348 : decode cX13_turnRound 348 = .ok (.isub, 1) := by decide +kernel
theorem dX13_turnRound_349 : decode cX13_turnRound 349 = .ok (.iaload, 1) := by decide +kernel
theorem dX13_turnRound_350 : decode cX13_turnRound 350 = .ok (.istore 7, 2) := by decide +kernel
theorem dX13_turnRound_352 : decode cX13_turnRound 352 = .ok (.iinc 8 1, 3) := by decide +kernel
theorem dX13_turnRound_355 : decode cX13_turnRound 355 = .ok (.goto (-46), 3) := by decide +kernel
theorem dX13_turnRound_358 : decode cX13_turnRound 358 = .ok (.iconst 0, 1) := by decide +kernel
theorem dX13_turnRound_359 : decode cX13_turnRound 359 = .ok (.istore 9, 2) := by decide +kernel
theorem dX13_turnRound_361 : decode cX13_turnRound 361 = .ok (.iload 5, 2) := by decide +kernel
theorem dX13_turnRound_363 : decode cX13_turnRound 363 = .ok (.iconst 1, 1) := by decide +kernel
theorem dX13_turnRound_364 : decode cX13_turnRound 364 = .ok (.isub, 1) := by decide +kernel
theorem dX13_turnRound_365 : decode cX13_turnRound 365 = .ok (.istore 10, 2) := by decide +kernel
theorem dX13_turnRound_367 : decode cX13_turnRound 367 = .ok (.iload 10, 2) := by decide +kernel
theorem dX13_turnRound_369 : decode cX13_turnRound 369 = .ok (.iload 8, 2) := by decide +kernel
theorem dX13_turnRound_371 : decode cX13_turnRound 371 = .ok (.if_icmp .lt 35, 3) := by decide +kernel
theorem dX13_turnRound_374 : decode cX13_turnRound 374 = .ok (.aload_n 0, 1) := by decide +kernel
theorem dX13_turnRound_375 : decode cX13_turnRound 375 = .ok (.getfield 341, 3) := by decide +kernel
theorem dX13_turnRound_378 : decode cX13_turnRound 378 = .ok (.iconst 4, 1) := by decide +kernel
theorem dX13_turnRound_379 : decode cX13_turnRound 379 = .ok (.bipush 120, 2) := by decide +kernel
theorem dX13_turnRound_381 : decode cX13_turnRound 381 = .ok (.iload_n 1, 1) := by decide +kernel
theorem dX13_turnRound_382 : decode cX13_turnRound 382 = .ok (.imul, 1) := by decide +kernel
theorem dX13_turnRound_383 : decode cX13_turnRound 383 = .ok (.iload 9, 2) := by decide +kernel
theorem dX13_turnRound_385 : decode cX13_turnRound 385 = .ok (.iadd, 1) := by decide +kernel
theorem dX13_turnRound_386 : decode cX13_turnRound 386 = .ok (.imul, 1) := by decide +kernel
theorem dX13_turnRound_387 : decode cX13_turnRound 387 = .ok (.aload_n 0, 1) := by decide +kernel
theorem dX13_turnRound_388 : decode cX13_turnRound 388 = .ok (.getfield 359, 3) := by decide +kernel
theorem dX13_turnRound_391 : decode cX13_turnRound 391 = .ok (.iload 10, 2) := by decide +kernel
theorem dX13_turnRound_393 : decode cX13_turnRound 393 = .ok (.iaload, 1) := by decide +kernel
theorem dX13_turnRound_394 : decode cX13_turnRound 394 = .ok (.isub, 1) := by decide +kernel
theorem dX13_turnRound_395 : decode cX13_turnRound 395 = .ok (.iconst 1, 1) := by decide +kernel
theorem dX13_turnRound_396 : decode cX13_turnRound 396 = .ok (.isub, 1) := by decide +kernel
theorem dX13_turnRound_397 : decode cX13_turnRound 397 = .ok (.iaload, 1) := by decide +kernel
theorem dX13_turnRound_398 : decode cX13_turnRound 398 = .ok (.istore 9, 2) := by decide +kernel
theorem dX13_turnRound_400 : decode cX13_turnRound 400 = .ok (.iinc 10 (-1), 3) := by decide +kernel
theorem dX13_turnRound_403 : decode cX13_turnRound 403 = .ok (.goto (-36), 3) := by decide +kernel
theorem dX13_turnRound_406 : decode cX13_turnRound 406 = .ok (.aload_n 0, 1) := by decide +kernel
theorem dX13_turnRound_407 : decode cX13_turnRound 407 = .ok (.getfield 350, 3) := by decide +kernel
theorem dX13_turnRound_410 : decode cX13_turnRound 410 = .ok (.iconst 4, 1) := by decide +kernel
theorem dX13_turnRound_411 : decode cX13_turnRound 411 = .ok (.iload 4, 2) := by decide +kernel
theorem dX13_turnRound_413 : decode cX13_turnRound 413 = .ok (.imul, 1) := by decide +kernel
theorem dX13_turnRound_414 : decode cX13_turnRound 414 = .ok (.iload_n 3, 1) := by decide +kernel
theorem dX13_turnRound_415 : decode cX13_turnRound 415 = .ok (.iadd, 1) := by decide +kernel
theorem dX13_turnRound_416 : decode cX13_turnRound 416 = .ok (.iload 7, 2) := by decide +kernel
theorem dX13_turnRound_418 : decode cX13_turnRound 418 = .ok (.iastore, 1) := by decide +kernel
theorem dX13_turnRound_419 : decode cX13_turnRound 419 = .ok (.aload_n 0, 1) := by decide +kernel
theorem dX13_turnRound_420 : decode cX13_turnRound 420 = .ok (.getfield 353, 3) := by decide +kernel
theorem dX13_turnRound_423 : decode cX13_turnRound 423 = .ok (.iconst 4, 1) := by decide +kernel
theorem dX13_turnRound_424 : decode cX13_turnRound 424 = .ok (.iload 4, 2) := by decide +kernel
theorem dX13_turnRound_426 : decode cX13_turnRound 426 = .ok (.imul, 1) := by decide +kernel
theorem dX13_turnRound_427 : decode cX13_turnRound 427 = .ok (.iload_n 3, 1) := by decide +kernel
theorem dX13_turnRound_428 : decode cX13_turnRound 428 = .ok (.iadd, 1) := by decide +kernel
theorem dX13_turnRound_429 : decode cX13_turnRound 429 = .ok (.iload 9, 2) := by decide +kernel
theorem dX13_turnRound_431 : decode cX13_turnRound 431 = .ok (.iastore, 1) := by decide +kernel
theorem dX13_turnRound_432 : decode cX13_turnRound 432 = .ok (.return_, 1) := by decide +kernel
def wf_MturnRound : List Cond := .code yX13_turnRound cX13_turnRound 11 none :: ([.fieldLink RX13 338 "KnotHouseModel" "sizes" "[I", .fieldLink RX13 335 "KnotHouseModel" "letters" "[I", .fieldLink RX13 341 "KnotHouseModel" "more" "[I", .fieldLink RX13 350 "KnotHouseModel" "passes" "[I", .fieldLink RX13 353 "KnotHouseModel" "leaves" "[I", .fieldLink RX13 359 "KnotHouseModel" "signed" "[I", .methodLink RX13 734 Lib.Math.abs.name, .static Lib.Math.abs.name, .initialized "java/lang/Math", .code Lib.Math.abs.name Lib.Math.abs.code 1 (some .int)] ++ wsX130)
set_option maxHeartbeats 4000000 in
set_option maxRecDepth 100000 in
theorem kf_X13_turnRound (l : Launch) (dC : Nat → ClassId) (dI : Nat → Nat → Nat) (cI cB cJ cZ : ClassId) (h0 aZ aL aM aP aV aG : Nat) (fs : List Value) (hfs : fs.length = 120) (hkaZ : fs[99]? = some (.ref aZ)) (hkaL : fs[98]? = some (.ref aL)) (hkaM : fs[100]? = some (.ref aM)) (hkaP : fs[103]? = some (.ref aP)) (hkaV : fs[104]? = some (.ref aV)) (hkaG : fs[106]? = some (.ref aG)) (fZ fL fM fP fV fG : Nat → Int32) (n k j z w0 : Nat) (h2 : 2 ≤ n) (h5 : n ≤ 5) (hk : k < 120) (hj : j + 1 < n) (hz : z ≤ 10) (lr : Nat → Nat) (hlt : ∀ t, lr t < 4) (hfZ : fZ (120 * n + k) = nI z) (hfL : ∀ t, t < z → fL (10 * (120 * n + k) + t) = nI (lr t)) (hfM : ∀ i, i < 2880 → ∃ r, r ≤ 120 ∧ fM i = nI r - 1) (hrv : ow_rv 128 (z + 1) 0 w0 = true) (hw : ∀ t, t < z → ow_dg w0 t = 9 + lr (z - 1 - t)) (hwz : ow_dg w0 z = 1 + j) (sz : Nat) : Met l yX13_turnRound wf_MturnRound (({ frames := 1, cells := 0, slots := 0, locals := 40 } : Room)) (va_Pc [.ref h0, .int (nI n), .int (nI k), .int (nI j)] (fun U => U.heap.size = sz ∧ va_P (dC, dI) vwCl [(h0, .inr (16, fs)), (aZ, .inl (cI, 720, .inl fZ)), (aL, .inl (cI, 7200, .inl fL)), (aM, .inl (cI, 2880, .inl fM)), (aP, .inl (cI, 2880, .inl fP)), (aV, .inl (cI, 2880, .inl fV)), (aG, .inl (cI, 400, .inl fG))] U.heap ∧ va_K (dC, dI) vwCl [(cI, .int), (cB, .byte), (cJ, .long), (cZ, .boolean)] U ∧ va_D (fun _ => True) [(h0, .inr (16, fs)), (aZ, .inl (cI, 720, .inl fZ)), (aL, .inl (cI, 7200, .inl fL)), (aM, .inl (cI, 2880, .inl fM)), (aP, .inl (cI, 2880, .inl fP)), (aV, .inl (cI, 2880, .inl fV)), (aG, .inl (cI, 400, .inl fG))])) (va_Qv (fun g : (Nat → Int32) × (Nat → Int32) × (Nat → Int32) => True) (fun g t => va_P (dC, dI) vwCl [(h0, .inr (16, fs)), (aZ, .inl (cI, 720, .inl fZ)), (aL, .inl (cI, 7200, .inl fL)), (aM, .inl (cI, 2880, .inl fM)), (aP, .inl (cI, 2880, .inl g.1)), (aV, .inl (cI, 2880, .inl g.2.1)), (aG, .inl (cI, 400, .inl g.2.2))] t.heap ∧ va_D (va_A [(h0, .inr (16, fs)), (aZ, .inl (cI, 720, .inl fZ)), (aL, .inl (cI, 7200, .inl fL)), (aM, .inl (cI, 2880, .inl fM)), (aP, .inl (cI, 2880, .inl fP)), (aV, .inl (cI, 2880, .inl fV)), (aG, .inl (cI, 400, .inl fG))] sz) [(h0, .inr (16, fs)), (aZ, .inl (cI, 720, .inl fZ)), (aL, .inl (cI, 7200, .inl fL)), (aM, .inl (cI, 2880, .inl fM)), (aP, .inl (cI, 2880, .inl g.1)), (aV, .inl (cI, 2880, .inl g.2.1)), (aG, .inl (cI, 400, .inl g.2.2))]) (va_A [(h0, .inr (16, fs)), (aZ, .inl (cI, 720, .inl fZ)), (aL, .inl (cI, 7200, .inl fL)), (aM, .inl (cI, 2880, .inl fM)), (aP, .inl (cI, 2880, .inl fP)), (aV, .inl (cI, 2880, .inl fV)), (aG, .inl (cI, 400, .inl fG))] sz)) 0 0 (va_A [(h0, .inr (16, fs)), (aZ, .inl (cI, 720, .inl fZ)), (aL, .inl (cI, 7200, .inl fL)), (aM, .inl (cI, 2880, .inl fM)), (aP, .inl (cI, 2880, .inl fP)), (aV, .inl (cI, 2880, .inl fV)), (aG, .inl (cI, 400, .inl fG))] sz) := by
  refine Met.ofW (cc := cX13_turnRound) (maxL := 11) (ret := none) (by decide) rfl ?_
  intro p e s m args below meth c s₁ B hml hv
  obtain ⟨rfl, hsz, hP, hK, hD0⟩ := hv
  have hx := B.exec
  have hb := B.bytes
  have hr := B.returns
  have hts := atoms_spec (ws := wf_MturnRound) B.pre
  have hown : s.vm.findClass RX13 = some m.cls := findClass_of_methodNamed B.named
  have hlocks := B.notSynchronized
  subst hsz
  have hD := hD0.self (sz := s.heap.size)
  generalize hAe : va_A [(h0, .inr (16, fs)), (aZ, .inl (cI, 720, .inl fZ)), (aL, .inl (cI, 7200, .inl fL)), (aM, .inl (cI, 2880, .inl fM)), (aP, .inl (cI, 2880, .inl fP)), (aV, .inl (cI, 2880, .inl fV)), (aG, .inl (cI, 400, .inl fG))] s.heap.size = A at hD ⊢
  have hA : ∀ q : Nat, s.heap.size ≤ q → A q := fun q h => by rw [← hAe]; exact Or.inr h
  have hS : va_S A s.heap s.heap [] := va_S.rf
  have hP : va_P (dC, dI) vwCl [(h0, .inr (16, fs)), (aZ, .inl (cI, 720, .inl fZ)), (aL, .inl (cI, 7200, .inl fL)), (aM, .inl (cI, 2880, .inl fM)), (aP, .inl (cI, 2880, .inl fP)), (aV, .inl (cI, 2880, .inl fV)), (aG, .inl (cI, 400, .inl fG))] s.heap := hP
  have hl := lv_entry ([.ref h0, .int (nI n), .int (nI k), .int (nI j)]) (n := 11) (Nat.le_of_ble_eq_true rfl)
  rw [lg_entry_eq]
  generalize (lg_sl ([.ref h0, .int (nI n), .int (nI k), .int (nI j)]) ++ List.replicate (11 - (lg_sl ([.ref h0, .int (nI n), .int (nI k), .int (nI j)])).length) Slot.unset).toArray = ls at hl ⊢
  have hl : lv_has ls 11 [(0, .ref h0), (1, .int (nI n)), (2, .int (nI k)), (3, .int (nI j))] := hl
  refine ow_named (fun QQ hQQ => ?_)
  have hok0 : ∀ t, t < z + 1 → ow_ok (ow_dg w0 t) := fun t9 h9 => by
    rcases Nat.lt_or_ge t9 z with y9 | y9
    · have a9 := hlt (z - 1 - t9)
      have b9 := hw t9 y9
      exact Or.inr ⟨by omega, by omega⟩
    · have e9 : t9 = z := by omega
      rw [e9, hwz]
      exact Or.inl ⟨by omega, by omega⟩
  have L74 : ∀ (fu sz i w : Nat), ow_rv fu sz i w = true → sz ≤ 40 → i ≤ sz → (∀ t, t < sz → ow_ok (ow_dg w t)) → ∀ (H : Heap) (locs : List Loc) (ls : Array Slot) (fG : Nat → Int32), va_P (dC, dI) vwCl [(h0, .inr (16, fs)), (aZ, .inl (cI, 720, .inl fZ)), (aL, .inl (cI, 7200, .inl fL)), (aM, .inl (cI, 2880, .inl fM)), (aP, .inl (cI, 2880, .inl fP)), (aV, .inl (cI, 2880, .inl fV)), (aG, .inl (cI, 400, .inl fG))] H → va_D A [(h0, .inr (16, fs)), (aZ, .inl (cI, 720, .inl fZ)), (aL, .inl (cI, 7200, .inl fL)), (aM, .inl (cI, 2880, .inl fM)), (aP, .inl (cI, 2880, .inl fP)), (aV, .inl (cI, 2880, .inl fV)), (aG, .inl (cI, 400, .inl fG))] → va_S A s.heap H locs → lv_has ls 11 [(0, .ref h0), (1, .int (nI n)), (2, .int (nI k)), (3, .int (nI j)), (4, .int (nI (120 * n + k))), (5, .int (nI sz)), (6, .int (nI i))] → (∀ t, t < sz → fG t = ow_sg (ow_dg w t)) → W p l e ({ frames := 1, cells := 0, slots := 0, locals := 40 } : Room) s m ([.ref h0, .int (nI n), .int (nI k), .int (nI j)] : List Value).toArray below meth c H locs 0 0 QQ (F0 m 74 ls []) := by
    intro fu
    induction fu with
    | zero => exact fun sz i w h9 => absurd (show false = true from h9) Bool.false_ne_true
    | succ fu ih_fu =>
      intro sz i w hrv0 hsz hi hok H locs ls fG hP hD hS hl hG
      rcases ow_rv_next hrv0 with g1 | ⟨g1, g2 | ⟨g2, g3, g4 | g4 | g4⟩⟩
      · have L367 : ∀ (q : Nat), q ≤ sz → ∀ (ls : Array Slot) (t ra rb : Nat), t ≤ sz → ra ≤ 120 → rb ≤ 120 → lv_has ls 11 [(0, .ref h0), (1, .int (nI n)), (2, .int (nI k)), (3, .int (nI j)), (4, .int (nI (120 * n + k))), (5, .int (nI sz)), (7, .int (nI ra - 1)), (8, .int (nI t)), (9, .int (nI rb - 1)), (10, .int (nI q - 1))] → W p l e ({ frames := 1, cells := 0, slots := 0, locals := 40 } : Room) s m ([.ref h0, .int (nI n), .int (nI k), .int (nI j)] : List Value).toArray below meth c H locs 0 0 QQ (F0 m 367 ls []) := by
          intro q
          induction q with
          | zero =>
            intro hq ls t ra rb ht hra hrb hl
            refine lv_iload hx hb dX13_turnRound_367 (lv_at hl 9 rfl) ?_
            refine lv_iload hx hb dX13_turnRound_369 (lv_at hl 7 rfl) ?_
            refine lv_icmp_lt (tgt := 406) hx hb dX13_turnRound_371 (by decide) (fun _ => ?_) (fun c9 => absurd (ow_m1lt t (by omega)) c9)
            refine lv_aload_n hx hb dX13_turnRound_406 rfl (lv_at hl 0 rfl) ?_
            refine va_get (D := (dC, dI)) (ci := 16) (v := .ref aP) (C := RX13) (T := TX13) (N := 120) hx hb hts (fun _ h => List.mem_cons_of_mem _ (List.mem_append_right _ h)) hown hK hP 0 rfl rfl 103 (by decide) (hts (.fieldLink RX13 350 "KnotHouseModel" "passes" "[I") (by decide +kernel)) (fun _ h9 => h9) hkaP dX13_turnRound_407 ?_
            refine lv_iconst (v := 4) hx hb dX13_turnRound_410 (by decide) ?_
            refine lv_iload hx hb dX13_turnRound_411 (lv_at hl 4 rfl) ?_
            refine lv_imul hx hb dX13_turnRound_413 ?_
            refine ow_topi (y := nI (4 * (120 * n + k))) (pk_mul 4 (120 * n + k)) ?_
            refine lv_iload_n hx hb dX13_turnRound_414 rfl (lv_at hl 3 rfl) ?_
            refine lv_iadd hx hb dX13_turnRound_415 ?_
            refine ow_topi (y := nI (4 * (120 * n + k) + j)) (nI_add (4 * (120 * n + k)) j) ?_
            refine lv_iload hx hb dX13_turnRound_416 (lv_at hl 6 rfl) ?_
            refine ow_iast hx hb hK hP hD hS 4 0 rfl rfl (vp_in_nI (n := 4 * (120 * n + k) + j) (N := 2880) (by omega) (by decide)) dX13_turnRound_418 (fun f1 H locs hP hD hS => ?_)
            have hP : va_P (dC, dI) vwCl [(h0, .inr (16, fs)), (aZ, .inl (cI, 720, .inl fZ)), (aL, .inl (cI, 7200, .inl fL)), (aM, .inl (cI, 2880, .inl fM)), (aP, .inl (cI, 2880, .inl f1)), (aV, .inl (cI, 2880, .inl fV)), (aG, .inl (cI, 400, .inl fG))] H := hP
            have hD : va_D A [(h0, .inr (16, fs)), (aZ, .inl (cI, 720, .inl fZ)), (aL, .inl (cI, 7200, .inl fL)), (aM, .inl (cI, 2880, .inl fM)), (aP, .inl (cI, 2880, .inl f1)), (aV, .inl (cI, 2880, .inl fV)), (aG, .inl (cI, 400, .inl fG))] := hD
            refine lv_aload_n hx hb dX13_turnRound_419 rfl (lv_at hl 0 rfl) ?_
            refine va_get (D := (dC, dI)) (ci := 16) (v := .ref aV) (C := RX13) (T := TX13) (N := 120) hx hb hts (fun _ h => List.mem_cons_of_mem _ (List.mem_append_right _ h)) hown hK hP 0 rfl rfl 104 (by decide) (hts (.fieldLink RX13 353 "KnotHouseModel" "leaves" "[I") (by decide +kernel)) (fun _ h9 => h9) hkaV dX13_turnRound_420 ?_
            refine lv_iconst (v := 4) hx hb dX13_turnRound_423 (by decide) ?_
            refine lv_iload hx hb dX13_turnRound_424 (lv_at hl 4 rfl) ?_
            refine lv_imul hx hb dX13_turnRound_426 ?_
            refine ow_topi (y := nI (4 * (120 * n + k))) (pk_mul 4 (120 * n + k)) ?_
            refine lv_iload_n hx hb dX13_turnRound_427 rfl (lv_at hl 3 rfl) ?_
            refine lv_iadd hx hb dX13_turnRound_428 ?_
            refine ow_topi (y := nI (4 * (120 * n + k) + j)) (nI_add (4 * (120 * n + k)) j) ?_
            refine lv_iload hx hb dX13_turnRound_429 (lv_at hl 8 rfl) ?_
            refine ow_iast hx hb hK hP hD hS 5 0 rfl rfl (vp_in_nI (n := 4 * (120 * n + k) + j) (N := 2880) (by omega) (by decide)) dX13_turnRound_431 (fun f2 H locs hP hD hS => ?_)
            have hP : va_P (dC, dI) vwCl [(h0, .inr (16, fs)), (aZ, .inl (cI, 720, .inl fZ)), (aL, .inl (cI, 7200, .inl fL)), (aM, .inl (cI, 2880, .inl fM)), (aP, .inl (cI, 2880, .inl f1)), (aV, .inl (cI, 2880, .inl f2)), (aG, .inl (cI, 400, .inl fG))] H := hP
            have hD : va_D A [(h0, .inr (16, fs)), (aZ, .inl (cI, 720, .inl fZ)), (aL, .inl (cI, 7200, .inl fL)), (aM, .inl (cI, 2880, .inl fM)), (aP, .inl (cI, 2880, .inl f1)), (aV, .inl (cI, 2880, .inl f2)), (aG, .inl (cI, 400, .inl fG))] := hD
            rw [hQQ]
            exact W.vret hx hb hr (fun t ht hW => ⟨⟨(f1, f2, fG), rfl, trivial, by rw [ht]; exact hP, hD⟩, hS.F ht⟩) hS.2.2 dX13_turnRound_432
          | succ q ih_q =>
            intro hq ls t ra rb ht hra hrb hl
            rw [nI_pred] at hl
            refine lv_iload hx hb dX13_turnRound_367 (lv_at hl 9 rfl) ?_
            refine lv_iload hx hb dX13_turnRound_369 (lv_at hl 7 rfl) ?_
            refine lv_icmp_lt (tgt := 406) hx hb dX13_turnRound_371 (by decide) (fun c3 => ?_) (fun c3 => ?_)
            · refine lv_aload_n hx hb dX13_turnRound_406 rfl (lv_at hl 0 rfl) ?_
              refine va_get (D := (dC, dI)) (ci := 16) (v := .ref aP) (C := RX13) (T := TX13) (N := 120) hx hb hts (fun _ h => List.mem_cons_of_mem _ (List.mem_append_right _ h)) hown hK hP 0 rfl rfl 103 (by decide) (hts (.fieldLink RX13 350 "KnotHouseModel" "passes" "[I") (by decide +kernel)) (fun _ h9 => h9) hkaP dX13_turnRound_407 ?_
              refine lv_iconst (v := 4) hx hb dX13_turnRound_410 (by decide) ?_
              refine lv_iload hx hb dX13_turnRound_411 (lv_at hl 4 rfl) ?_
              refine lv_imul hx hb dX13_turnRound_413 ?_
              refine ow_topi (y := nI (4 * (120 * n + k))) (pk_mul 4 (120 * n + k)) ?_
              refine lv_iload_n hx hb dX13_turnRound_414 rfl (lv_at hl 3 rfl) ?_
              refine lv_iadd hx hb dX13_turnRound_415 ?_
              refine ow_topi (y := nI (4 * (120 * n + k) + j)) (nI_add (4 * (120 * n + k)) j) ?_
              refine lv_iload hx hb dX13_turnRound_416 (lv_at hl 6 rfl) ?_
              refine ow_iast hx hb hK hP hD hS 4 0 rfl rfl (vp_in_nI (n := 4 * (120 * n + k) + j) (N := 2880) (by omega) (by decide)) dX13_turnRound_418 (fun f4 H locs hP hD hS => ?_)
              have hP : va_P (dC, dI) vwCl [(h0, .inr (16, fs)), (aZ, .inl (cI, 720, .inl fZ)), (aL, .inl (cI, 7200, .inl fL)), (aM, .inl (cI, 2880, .inl fM)), (aP, .inl (cI, 2880, .inl f4)), (aV, .inl (cI, 2880, .inl fV)), (aG, .inl (cI, 400, .inl fG))] H := hP
              have hD : va_D A [(h0, .inr (16, fs)), (aZ, .inl (cI, 720, .inl fZ)), (aL, .inl (cI, 7200, .inl fL)), (aM, .inl (cI, 2880, .inl fM)), (aP, .inl (cI, 2880, .inl f4)), (aV, .inl (cI, 2880, .inl fV)), (aG, .inl (cI, 400, .inl fG))] := hD
              refine lv_aload_n hx hb dX13_turnRound_419 rfl (lv_at hl 0 rfl) ?_
              refine va_get (D := (dC, dI)) (ci := 16) (v := .ref aV) (C := RX13) (T := TX13) (N := 120) hx hb hts (fun _ h => List.mem_cons_of_mem _ (List.mem_append_right _ h)) hown hK hP 0 rfl rfl 104 (by decide) (hts (.fieldLink RX13 353 "KnotHouseModel" "leaves" "[I") (by decide +kernel)) (fun _ h9 => h9) hkaV dX13_turnRound_420 ?_
              refine lv_iconst (v := 4) hx hb dX13_turnRound_423 (by decide) ?_
              refine lv_iload hx hb dX13_turnRound_424 (lv_at hl 4 rfl) ?_
              refine lv_imul hx hb dX13_turnRound_426 ?_
              refine ow_topi (y := nI (4 * (120 * n + k))) (pk_mul 4 (120 * n + k)) ?_
              refine lv_iload_n hx hb dX13_turnRound_427 rfl (lv_at hl 3 rfl) ?_
              refine lv_iadd hx hb dX13_turnRound_428 ?_
              refine ow_topi (y := nI (4 * (120 * n + k) + j)) (nI_add (4 * (120 * n + k)) j) ?_
              refine lv_iload hx hb dX13_turnRound_429 (lv_at hl 8 rfl) ?_
              refine ow_iast hx hb hK hP hD hS 5 0 rfl rfl (vp_in_nI (n := 4 * (120 * n + k) + j) (N := 2880) (by omega) (by decide)) dX13_turnRound_431 (fun f5 H locs hP hD hS => ?_)
              have hP : va_P (dC, dI) vwCl [(h0, .inr (16, fs)), (aZ, .inl (cI, 720, .inl fZ)), (aL, .inl (cI, 7200, .inl fL)), (aM, .inl (cI, 2880, .inl fM)), (aP, .inl (cI, 2880, .inl f4)), (aV, .inl (cI, 2880, .inl f5)), (aG, .inl (cI, 400, .inl fG))] H := hP
              have hD : va_D A [(h0, .inr (16, fs)), (aZ, .inl (cI, 720, .inl fZ)), (aL, .inl (cI, 7200, .inl fL)), (aM, .inl (cI, 2880, .inl fM)), (aP, .inl (cI, 2880, .inl f4)), (aV, .inl (cI, 2880, .inl f5)), (aG, .inl (cI, 400, .inl fG))] := hD
              rw [hQQ]
              exact W.vret hx hb hr (fun t ht hW => ⟨⟨(f4, f5, fG), rfl, trivial, by rw [ht]; exact hP, hD⟩, hS.F ht⟩) hS.2.2 dX13_turnRound_432
            · obtain ⟨Y, eY, hY1, hY2⟩ := ow_subsg (X := 4 * (120 * n + rb - 1)) (ow_dg16 w q) (hok q (by omega)) (by omega)
              obtain ⟨rc, hrc, erc⟩ := hfM (Y - 1) (by omega)
              refine lv_aload_n hx hb dX13_turnRound_374 rfl (lv_at hl 0 rfl) ?_
              refine va_get (D := (dC, dI)) (ci := 16) (v := .ref aM) (C := RX13) (T := TX13) (N := 120) hx hb hts (fun _ h => List.mem_cons_of_mem _ (List.mem_append_right _ h)) hown hK hP 0 rfl rfl 100 (by decide) (hts (.fieldLink RX13 341 "KnotHouseModel" "more" "[I") (by decide +kernel)) (fun _ h9 => h9) hkaM dX13_turnRound_375 ?_
              refine lv_iconst (v := 4) hx hb dX13_turnRound_378 (by decide) ?_
              refine lv_bipush (v := 120) hx hb dX13_turnRound_379 (by decide) ?_
              refine lv_iload_n hx hb dX13_turnRound_381 rfl (lv_at hl 1 rfl) ?_
              refine lv_imul hx hb dX13_turnRound_382 ?_
              refine ow_topi (y := nI (120 * n)) (pk_mul 120 n) ?_
              refine lv_iload hx hb dX13_turnRound_383 (lv_at hl 8 rfl) ?_
              refine lv_iadd hx hb dX13_turnRound_385 ?_
              refine ow_topi (y := nI (120 * n + rb - 1)) (ow_pm (120 * n) rb (by omega)) ?_
              refine lv_imul hx hb dX13_turnRound_386 ?_
              refine ow_topi (y := nI (4 * (120 * n + rb - 1))) (pk_mul 4 (120 * n + rb - 1)) ?_
              refine lv_aload_n hx hb dX13_turnRound_387 rfl (lv_at hl 0 rfl) ?_
              refine va_get (D := (dC, dI)) (ci := 16) (v := .ref aG) (C := RX13) (T := TX13) (N := 120) hx hb hts (fun _ h => List.mem_cons_of_mem _ (List.mem_append_right _ h)) hown hK hP 0 rfl rfl 106 (by decide) (hts (.fieldLink RX13 359 "KnotHouseModel" "signed" "[I") (by decide +kernel)) (fun _ h9 => h9) hkaG dX13_turnRound_388 ?_
              refine lv_iload hx hb dX13_turnRound_391 (lv_at hl 9 rfl) ?_
              refine va_iald hx hb hK hP 6 0 rfl rfl (vp_in_nI (n := q) (N := 400) (by omega) (by decide)) dX13_turnRound_393 ?_
              refine ow_topi (y := ow_sg (ow_dg w q)) ((congrArg fG (nI_clamp (n := q) (by omega))).trans (hG q (by omega))) ?_
              refine lv_isub hx hb dX13_turnRound_394 ?_
              refine ow_topi (y := nI Y) (eY) ?_
              refine lv_iconst (v := 1) hx hb dX13_turnRound_395 (by decide) ?_
              refine lv_isub hx hb dX13_turnRound_396 ?_
              refine ow_topi (y := nI (Y - 1)) (pk_sub (a := Y) (b := 1) (by omega)) ?_
              refine va_iald hx hb hK hP 3 0 rfl rfl (vp_in_nI (n := Y - 1) (N := 2880) (by omega) (by decide)) dX13_turnRound_397 ?_
              refine ow_topi (y := nI rc - 1) ((congrArg fM (nI_clamp (n := Y - 1) (by omega))).trans (erc)) ?_
              refine lv_istore (lv' := [(9, .int (nI rc - 1)), (0, .ref h0), (1, .int (nI n)), (2, .int (nI k)), (3, .int (nI j)), (4, .int (nI (120 * n + k))), (5, .int (nI sz)), (7, .int (nI ra - 1)), (8, .int (nI t)), (10, .int (nI q))]) hx hb dX13_turnRound_398 hl (by decide) rfl (fun ls hl => ?_)
              refine lv_iinc (v := nI q - 1) (lv' := [(10, .int (nI q - 1)), (9, .int (nI rc - 1)), (0, .ref h0), (1, .int (nI n)), (2, .int (nI k)), (3, .int (nI j)), (4, .int (nI (120 * n + k))), (5, .int (nI sz)), (7, .int (nI ra - 1)), (8, .int (nI t))]) hx hb dX13_turnRound_400 hl (k := 9) rfl (Int32.sub_eq_add_neg (nI q) 1).symm (by decide) rfl (fun ls hl => ?_)
              refine lv_goto (tgt := 367) hx hb dX13_turnRound_403 (by decide) ?_
              exact ih_q (by omega) ls t ra rc ht hra hrc (lv_sub hl [2, 3, 4, 5, 6, 7, 8, 9, 1, 0] rfl)
        have L358 : ∀ (ls : Array Slot) (t ra : Nat), t ≤ sz → ra ≤ 120 → lv_has ls 11 [(0, .ref h0), (1, .int (nI n)), (2, .int (nI k)), (3, .int (nI j)), (4, .int (nI (120 * n + k))), (5, .int (nI sz)), (7, .int (nI ra - 1)), (8, .int (nI t))] → W p l e ({ frames := 1, cells := 0, slots := 0, locals := 40 } : Room) s m ([.ref h0, .int (nI n), .int (nI k), .int (nI j)] : List Value).toArray below meth c H locs 0 0 QQ (F0 m 358 ls []) := by
          intro ls t ra ht hra hl
          refine lv_iconst (v := 0) hx hb dX13_turnRound_358 (by decide) ?_
          refine ow_topi (y := nI 1 - 1) (by decide) ?_
          refine lv_istore (lv' := [(9, .int (nI 1 - 1)), (0, .ref h0), (1, .int (nI n)), (2, .int (nI k)), (3, .int (nI j)), (4, .int (nI (120 * n + k))), (5, .int (nI sz)), (7, .int (nI ra - 1)), (8, .int (nI t))]) hx hb dX13_turnRound_359 hl (by decide) rfl (fun ls hl => ?_)
          refine lv_iload hx hb dX13_turnRound_361 (lv_at hl 6 rfl) ?_
          refine lv_iconst (v := 1) hx hb dX13_turnRound_363 (by decide) ?_
          refine lv_isub hx hb dX13_turnRound_364 ?_
          refine lv_istore (lv' := [(10, .int ((nI sz) - 1)), (9, .int (nI 1 - 1)), (0, .ref h0), (1, .int (nI n)), (2, .int (nI k)), (3, .int (nI j)), (4, .int (nI (120 * n + k))), (5, .int (nI sz)), (7, .int (nI ra - 1)), (8, .int (nI t))]) hx hb dX13_turnRound_365 hl (by decide) rfl (fun ls hl => ?_)
          exact L367 sz (Nat.le_refl sz) ls t ra 1 ht hra (by decide) (lv_sub hl [2, 3, 4, 5, 6, 7, 8, 9, 1, 0] rfl)
        have L309 : ∀ (d t : Nat), t + d = sz → ∀ (ls : Array Slot) (ra : Nat), ra ≤ 120 → lv_has ls 11 [(0, .ref h0), (1, .int (nI n)), (2, .int (nI k)), (3, .int (nI j)), (4, .int (nI (120 * n + k))), (5, .int (nI sz)), (7, .int (nI ra - 1)), (8, .int (nI t))] → W p l e ({ frames := 1, cells := 0, slots := 0, locals := 40 } : Room) s m ([.ref h0, .int (nI n), .int (nI k), .int (nI j)] : List Value).toArray below meth c H locs 0 0 QQ (F0 m 309 ls []) := by
          intro d
          induction d with
          | zero =>
            intro t hv_t ls ra hra hl
            refine lv_iload hx hb dX13_turnRound_309 (lv_at hl 7 rfl) ?_
            refine lv_iload hx hb dX13_turnRound_311 (lv_at hl 5 rfl) ?_
            refine lv_icmp_ge (tgt := 358) hx hb dX13_turnRound_313 (by decide) (fun _ => ?_) (fun c9 => absurd (nI_le (a := sz) (b := t) (by omega) (by omega)) c9)
            exact L358 ls t ra (by omega) hra (lv_sub hl [0, 1, 2, 3, 4, 5, 6, 7] rfl)
          | succ d ih_d =>
            intro t hv_t ls ra hra hl
            refine lv_iload hx hb dX13_turnRound_309 (lv_at hl 7 rfl) ?_
            refine lv_iload hx hb dX13_turnRound_311 (lv_at hl 5 rfl) ?_
            refine lv_icmp_ge (tgt := 358) hx hb dX13_turnRound_313 (by decide) (fun c9 => absurd c9 (nI_ge (a := t) (b := sz) (by omega) (by omega))) (fun _ => ?_)
            refine lv_aload_n hx hb dX13_turnRound_316 rfl (lv_at hl 0 rfl) ?_
            refine va_get (D := (dC, dI)) (ci := 16) (v := .ref aG) (C := RX13) (T := TX13) (N := 120) hx hb hts (fun _ h => List.mem_cons_of_mem _ (List.mem_append_right _ h)) hown hK hP 0 rfl rfl 106 (by decide) (hts (.fieldLink RX13 359 "KnotHouseModel" "signed" "[I") (by decide +kernel)) (fun _ h9 => h9) hkaG dX13_turnRound_317 ?_
            refine lv_iload hx hb dX13_turnRound_320 (lv_at hl 7 rfl) ?_
            refine va_iald hx hb hK hP 6 0 rfl rfl (vp_in_nI (n := t) (N := 400) (by omega) (by decide)) dX13_turnRound_322 ?_
            refine ow_topi (y := ow_sg (ow_dg w t)) ((congrArg fG (nI_clamp (n := t) (by omega))).trans (hG t (by omega))) ?_
            refine lv_if_le (tgt := 358) hx hb dX13_turnRound_323 (by decide) (fun c9 => ?_) (fun c9 => ?_)
            · exact L358 ls t ra (by omega) hra (lv_sub hl [0, 1, 2, 3, 4, 5, 6, 7] rfl)
            · have hd8 : ow_dg w t < 8 := by
                rcases Nat.lt_or_ge (ow_dg w t) 8 with y9 | y9
                · exact y9
                · exact absurd ((ow_sgP _ (ow_dg16 w t) (hok t (by omega))).mpr y9) c9
              have hd1 : (1 ≤ ow_dg w t ∧ ow_dg w t ≤ 4) ∨ (9 ≤ ow_dg w t ∧ ow_dg w t ≤ 12) := hok t (by omega)
              obtain ⟨rc, hrc, erc⟩ := hfM (4 * (120 * n + ra - 1) + ow_dg w t - 1) (by omega)
              refine lv_aload_n hx hb dX13_turnRound_326 rfl (lv_at hl 0 rfl) ?_
              refine va_get (D := (dC, dI)) (ci := 16) (v := .ref aM) (C := RX13) (T := TX13) (N := 120) hx hb hts (fun _ h => List.mem_cons_of_mem _ (List.mem_append_right _ h)) hown hK hP 0 rfl rfl 100 (by decide) (hts (.fieldLink RX13 341 "KnotHouseModel" "more" "[I") (by decide +kernel)) (fun _ h9 => h9) hkaM dX13_turnRound_327 ?_
              refine lv_iconst (v := 4) hx hb dX13_turnRound_330 (by decide) ?_
              refine lv_bipush (v := 120) hx hb dX13_turnRound_331 (by decide) ?_
              refine lv_iload_n hx hb dX13_turnRound_333 rfl (lv_at hl 1 rfl) ?_
              refine lv_imul hx hb dX13_turnRound_334 ?_
              refine ow_topi (y := nI (120 * n)) (pk_mul 120 n) ?_
              refine lv_iload hx hb dX13_turnRound_335 (lv_at hl 6 rfl) ?_
              refine lv_iadd hx hb dX13_turnRound_337 ?_
              refine ow_topi (y := nI (120 * n + ra - 1)) (ow_pm (120 * n) ra (by omega)) ?_
              refine lv_imul hx hb dX13_turnRound_338 ?_
              refine ow_topi (y := nI (4 * (120 * n + ra - 1))) (pk_mul 4 (120 * n + ra - 1)) ?_
              refine lv_aload_n hx hb dX13_turnRound_339 rfl (lv_at hl 0 rfl) ?_
              refine va_get (D := (dC, dI)) (ci := 16) (v := .ref aG) (C := RX13) (T := TX13) (N := 120) hx hb hts (fun _ h => List.mem_cons_of_mem _ (List.mem_append_right _ h)) hown hK hP 0 rfl rfl 106 (by decide) (hts (.fieldLink RX13 359 "KnotHouseModel" "signed" "[I") (by decide +kernel)) (fun _ h9 => h9) hkaG dX13_turnRound_340 ?_
              refine lv_iload hx hb dX13_turnRound_343 (lv_at hl 7 rfl) ?_
              refine va_iald hx hb hK hP 6 0 rfl rfl (vp_in_nI (n := t) (N := 400) (by omega) (by decide)) dX13_turnRound_345 ?_
              refine ow_topi (y := nI (ow_dg w t)) ((congrArg fG (nI_clamp (n := t) (by omega))).trans ((hG t (by omega)).trans (ow_sgJ _ hd8))) ?_
              refine lv_iadd hx hb dX13_turnRound_346 ?_
              refine ow_topi (y := nI (4 * (120 * n + ra - 1) + ow_dg w t)) (nI_add (4 * (120 * n + ra - 1)) (ow_dg w t)) ?_
              refine lv_iconst (v := 1) hx hb dX13_turnRound_347 (by decide) ?_
              refine lv_isub hx hb dX13_turnRound_348 ?_
              refine ow_topi (y := nI (4 * (120 * n + ra - 1) + ow_dg w t - 1)) (pk_sub (a := 4 * (120 * n + ra - 1) + ow_dg w t) (b := 1) (by omega)) ?_
              refine va_iald hx hb hK hP 3 0 rfl rfl (vp_in_nI (n := 4 * (120 * n + ra - 1) + ow_dg w t - 1) (N := 2880) (by omega) (by decide)) dX13_turnRound_349 ?_
              refine ow_topi (y := nI rc - 1) ((congrArg fM (nI_clamp (n := 4 * (120 * n + ra - 1) + ow_dg w t - 1) (by omega))).trans (erc)) ?_
              refine lv_istore (lv' := [(7, .int (nI rc - 1)), (0, .ref h0), (1, .int (nI n)), (2, .int (nI k)), (3, .int (nI j)), (4, .int (nI (120 * n + k))), (5, .int (nI sz)), (8, .int (nI t))]) hx hb dX13_turnRound_350 hl (by decide) rfl (fun ls hl => ?_)
              refine lv_iinc (v := nI (t + 1)) (lv' := [(8, .int (nI (t + 1))), (7, .int (nI rc - 1)), (0, .ref h0), (1, .int (nI n)), (2, .int (nI k)), (3, .int (nI j)), (4, .int (nI (120 * n + k))), (5, .int (nI sz))]) hx hb dX13_turnRound_352 hl (k := 7) rfl (nI_1 t) (by decide) rfl (fun ls hl => ?_)
              refine lv_goto (tgt := 309) hx hb dX13_turnRound_355 (by decide) ?_
              exact ih_d (t + 1) (by omega) ls rc hrc (lv_sub hl [2, 3, 4, 5, 6, 7, 1, 0] rfl)
        refine lv_iload hx hb dX13_turnRound_74 (lv_at hl 6 rfl) ?_
        refine lv_iconst (v := 1) hx hb dX13_turnRound_76 (by decide) ?_
        refine lv_iadd hx hb dX13_turnRound_77 ?_
        refine ow_topi (y := nI (i + 1)) (nI_1 i) ?_
        refine lv_iload hx hb dX13_turnRound_78 (lv_at hl 5 rfl) ?_
        refine lv_icmp_ge (tgt := 303) hx hb dX13_turnRound_80 (by decide) (fun _ => ?_) (fun c9 => absurd (nI_le (a := sz) (b := i + 1) (by omega) (by omega)) c9)
        refine lv_iconst (v := 0) hx hb dX13_turnRound_303 (by decide) ?_
        refine ow_topi (y := nI 1 - 1) (by decide) ?_
        refine lv_istore (lv' := [(7, .int (nI 1 - 1)), (0, .ref h0), (1, .int (nI n)), (2, .int (nI k)), (3, .int (nI j)), (4, .int (nI (120 * n + k))), (5, .int (nI sz)), (6, .int (nI i))]) hx hb dX13_turnRound_304 hl (by decide) rfl (fun ls hl => ?_)
        refine lv_iconst (v := 0) hx hb dX13_turnRound_306 (by decide) ?_
        refine ow_topi (y := nI 0) (by decide) ?_
        refine lv_istore (lv' := [(8, .int (nI 0)), (7, .int (nI 1 - 1)), (0, .ref h0), (1, .int (nI n)), (2, .int (nI k)), (3, .int (nI j)), (4, .int (nI (120 * n + k))), (5, .int (nI sz)), (6, .int (nI i))]) hx hb dX13_turnRound_307 hl (by decide) rfl (fun ls hl => ?_)
        exact L309 sz 0 (by omega) ls 1 (by decide) (lv_sub hl [2, 3, 4, 5, 6, 7, 1, 0] rfl)
      · rcases Nat.lt_or_ge (ow_dg w i) 8 with g3 | g3
        · refine lv_iload hx hb dX13_turnRound_74 (lv_at hl 6 rfl) ?_
          refine lv_iconst (v := 1) hx hb dX13_turnRound_76 (by decide) ?_
          refine lv_iadd hx hb dX13_turnRound_77 ?_
          refine ow_topi (y := nI (i + 1)) (nI_1 i) ?_
          refine lv_iload hx hb dX13_turnRound_78 (lv_at hl 5 rfl) ?_
          refine lv_icmp_ge (tgt := 303) hx hb dX13_turnRound_80 (by decide) (fun c9 => absurd c9 (nI_ge (a := i + 1) (b := sz) g1 (by omega))) (fun _ => ?_)
          refine lv_aload_n hx hb dX13_turnRound_83 rfl (lv_at hl 0 rfl) ?_
          refine va_get (D := (dC, dI)) (ci := 16) (v := .ref aG) (C := RX13) (T := TX13) (N := 120) hx hb hts (fun _ h => List.mem_cons_of_mem _ (List.mem_append_right _ h)) hown hK hP 0 rfl rfl 106 (by decide) (hts (.fieldLink RX13 359 "KnotHouseModel" "signed" "[I") (by decide +kernel)) (fun _ h9 => h9) hkaG dX13_turnRound_84 ?_
          refine lv_iload hx hb dX13_turnRound_87 (lv_at hl 6 rfl) ?_
          refine va_iald hx hb hK hP 6 0 rfl rfl (vp_in_nI (n := i) (N := 400) (by omega) (by decide)) dX13_turnRound_89 ?_
          refine ow_topi (y := ow_sg (ow_dg w i)) ((congrArg fG (nI_clamp (n := i) (by omega))).trans (hG i (by omega))) ?_
          refine lv_if_ge (tgt := 297) hx hb dX13_turnRound_90 (by decide) (fun _ => ?_) (fun c9 => absurd (Int32.not_lt.mp (fun h9 => absurd ((ow_sgN _ (ow_dg16 w i) (hok i (by omega))).mp h9) (by omega))) c9)
          refine lv_iinc (v := nI (i + 1)) (lv' := [(6, .int (nI (i + 1))), (0, .ref h0), (1, .int (nI n)), (2, .int (nI k)), (3, .int (nI j)), (4, .int (nI (120 * n + k))), (5, .int (nI sz))]) hx hb dX13_turnRound_297 hl (k := 6) rfl (nI_1 i) (by decide) rfl (fun ls hl => ?_)
          refine lv_goto (tgt := 74) hx hb dX13_turnRound_300 (by decide) ?_
          exact ih_fu sz (i + 1) w g2.2 hsz (by omega) hok H locs ls _ hP hD hS (lv_sub hl [1, 2, 3, 4, 5, 6, 0] rfl) hG
        · refine lv_iload hx hb dX13_turnRound_74 (lv_at hl 6 rfl) ?_
          refine lv_iconst (v := 1) hx hb dX13_turnRound_76 (by decide) ?_
          refine lv_iadd hx hb dX13_turnRound_77 ?_
          refine ow_topi (y := nI (i + 1)) (nI_1 i) ?_
          refine lv_iload hx hb dX13_turnRound_78 (lv_at hl 5 rfl) ?_
          refine lv_icmp_ge (tgt := 303) hx hb dX13_turnRound_80 (by decide) (fun c9 => absurd c9 (nI_ge (a := i + 1) (b := sz) g1 (by omega))) (fun _ => ?_)
          refine lv_aload_n hx hb dX13_turnRound_83 rfl (lv_at hl 0 rfl) ?_
          refine va_get (D := (dC, dI)) (ci := 16) (v := .ref aG) (C := RX13) (T := TX13) (N := 120) hx hb hts (fun _ h => List.mem_cons_of_mem _ (List.mem_append_right _ h)) hown hK hP 0 rfl rfl 106 (by decide) (hts (.fieldLink RX13 359 "KnotHouseModel" "signed" "[I") (by decide +kernel)) (fun _ h9 => h9) hkaG dX13_turnRound_84 ?_
          refine lv_iload hx hb dX13_turnRound_87 (lv_at hl 6 rfl) ?_
          refine va_iald hx hb hK hP 6 0 rfl rfl (vp_in_nI (n := i) (N := 400) (by omega) (by decide)) dX13_turnRound_89 ?_
          refine ow_topi (y := ow_sg (ow_dg w i)) ((congrArg fG (nI_clamp (n := i) (by omega))).trans (hG i (by omega))) ?_
          refine lv_if_ge (tgt := 297) hx hb dX13_turnRound_90 (by decide) (fun c9 => absurd c9 (Int32.not_le.mpr ((ow_sgN _ (ow_dg16 w i) (hok i (by omega))).mpr g3))) (fun _ => ?_)
          refine lv_aload_n hx hb dX13_turnRound_93 rfl (lv_at hl 0 rfl) ?_
          refine va_get (D := (dC, dI)) (ci := 16) (v := .ref aG) (C := RX13) (T := TX13) (N := 120) hx hb hts (fun _ h => List.mem_cons_of_mem _ (List.mem_append_right _ h)) hown hK hP 0 rfl rfl 106 (by decide) (hts (.fieldLink RX13 359 "KnotHouseModel" "signed" "[I") (by decide +kernel)) (fun _ h9 => h9) hkaG dX13_turnRound_94 ?_
          refine lv_iload hx hb dX13_turnRound_97 (lv_at hl 6 rfl) ?_
          refine lv_iconst (v := 1) hx hb dX13_turnRound_99 (by decide) ?_
          refine lv_iadd hx hb dX13_turnRound_100 ?_
          refine ow_topi (y := nI (i + 1)) (nI_1 i) ?_
          refine va_iald hx hb hK hP 6 0 rfl rfl (vp_in_nI (n := i + 1) (N := 400) (by omega) (by decide)) dX13_turnRound_101 ?_
          refine ow_topi (y := ow_sg (ow_dg w (i + 1))) ((congrArg fG (nI_clamp (n := i + 1) (by omega))).trans (hG (i + 1) (by omega))) ?_
          refine lv_if_le (tgt := 297) hx hb dX13_turnRound_102 (by decide) (fun _ => ?_) (fun c9 => absurd ((ow_sgP _ (ow_dg16 w (i + 1)) (hok (i + 1) g1)).mpr (by rcases Nat.lt_or_ge (ow_dg w (i + 1)) 8 with y9 | y9; exact absurd ⟨g3, y9⟩ g2.1; exact y9)) c9)
          refine lv_iinc (v := nI (i + 1)) (lv' := [(6, .int (nI (i + 1))), (0, .ref h0), (1, .int (nI n)), (2, .int (nI k)), (3, .int (nI j)), (4, .int (nI (120 * n + k))), (5, .int (nI sz))]) hx hb dX13_turnRound_297 hl (k := 6) rfl (nI_1 i) (by decide) rfl (fun ls hl => ?_)
          refine lv_goto (tgt := 74) hx hb dX13_turnRound_300 (by decide) ?_
          exact ih_fu sz (i + 1) w g2.2 hsz (by omega) hok H locs ls _ hP hD hS (lv_sub hl [1, 2, 3, 4, 5, 6, 0] rfl) hG
      · have L146 : ∀ (q t : Nat), t + q + 2 = sz → i ≤ t → ∀ (H : Heap) (locs : List Loc) (ls : Array Slot) (fG : Nat → Int32), va_P (dC, dI) vwCl [(h0, .inr (16, fs)), (aZ, .inl (cI, 720, .inl fZ)), (aL, .inl (cI, 7200, .inl fL)), (aM, .inl (cI, 2880, .inl fM)), (aP, .inl (cI, 2880, .inl fP)), (aV, .inl (cI, 2880, .inl fV)), (aG, .inl (cI, 400, .inl fG))] H → va_D A [(h0, .inr (16, fs)), (aZ, .inl (cI, 720, .inl fZ)), (aL, .inl (cI, 7200, .inl fL)), (aM, .inl (cI, 2880, .inl fM)), (aP, .inl (cI, 2880, .inl fP)), (aV, .inl (cI, 2880, .inl fV)), (aG, .inl (cI, 400, .inl fG))] → va_S A s.heap H locs → lv_has ls 11 [(0, .ref h0), (1, .int (nI n)), (2, .int (nI k)), (3, .int (nI j)), (4, .int (nI (120 * n + k))), (5, .int (nI sz)), (6, .int (nI i)), (10, .int (nI t))] → (∀ u, u < t → fG u = ow_sg (ow_del w i u)) → (∀ u, t ≤ u → u < sz → fG u = ow_sg (ow_dg w u)) → W p l e ({ frames := 1, cells := 0, slots := 0, locals := 40 } : Room) s m ([.ref h0, .int (nI n), .int (nI k), .int (nI j)] : List Value).toArray below meth c H locs 0 0 QQ (F0 m 146 ls []) := by
          intro q
          induction q with
          | zero =>
            intro t hv_t hit H locs ls fG hP hD hS hl hGa hGb
            refine lv_iload hx hb dX13_turnRound_146 (lv_at hl 7 rfl) ?_
            refine lv_iconst (v := 2) hx hb dX13_turnRound_148 (by decide) ?_
            refine lv_iadd hx hb dX13_turnRound_149 ?_
            refine ow_topi (y := nI (t + 2)) (nI_add t 2) ?_
            refine lv_iload hx hb dX13_turnRound_150 (lv_at hl 5 rfl) ?_
            refine lv_icmp_ge (tgt := 177) hx hb dX13_turnRound_152 (by decide) (fun _ => ?_) (fun c9 => absurd (nI_le (a := sz) (b := t + 2) (by omega) (by omega)) c9)
            refine lv_iinc (v := nI (sz - 2)) (lv' := [(5, .int (nI (sz - 2))), (0, .ref h0), (1, .int (nI n)), (2, .int (nI k)), (3, .int (nI j)), (4, .int (nI (120 * n + k))), (6, .int (nI i)), (10, .int (nI t))]) hx hb dX13_turnRound_177 hl (k := 5) rfl (ow_dec2 (by omega)) (by decide) rfl (fun ls hl => ?_)
            refine lv_goto (tgt := 291) hx hb dX13_turnRound_180 (by decide) ?_
            refine lv_iconst (v := 0) hx hb dX13_turnRound_291 (by decide) ?_
            refine ow_topi (y := nI 0) (by decide) ?_
            refine lv_istore (lv' := [(6, .int (nI 0)), (5, .int (nI (sz - 2))), (0, .ref h0), (1, .int (nI n)), (2, .int (nI k)), (3, .int (nI j)), (4, .int (nI (120 * n + k))), (10, .int (nI t))]) hx hb dX13_turnRound_292 hl (by decide) rfl (fun ls hl => ?_)
            refine lv_goto (tgt := 74) hx hb dX13_turnRound_294 (by decide) ?_
            exact ih_fu (sz - 2) 0 _ g4.2 (by omega) (Nat.zero_le _) (ow_del_ok hok g1) H locs ls _ hP hD hS (lv_sub hl [2, 3, 4, 5, 6, 1, 0] rfl) (fun t9 h9 => by rw [ow_dg_enc (ow_del16 w i) _ t9 h9]; exact hGa t9 (by omega))
          | succ q ih_q =>
            intro t hv_t hit H locs ls fG hP hD hS hl hGa hGb
            refine lv_iload hx hb dX13_turnRound_146 (lv_at hl 7 rfl) ?_
            refine lv_iconst (v := 2) hx hb dX13_turnRound_148 (by decide) ?_
            refine lv_iadd hx hb dX13_turnRound_149 ?_
            refine ow_topi (y := nI (t + 2)) (nI_add t 2) ?_
            refine lv_iload hx hb dX13_turnRound_150 (lv_at hl 5 rfl) ?_
            refine lv_icmp_ge (tgt := 177) hx hb dX13_turnRound_152 (by decide) (fun c9 => absurd c9 (nI_ge (a := t + 2) (b := sz) (by omega) (by omega))) (fun _ => ?_)
            refine lv_aload_n hx hb dX13_turnRound_155 rfl (lv_at hl 0 rfl) ?_
            refine va_get (D := (dC, dI)) (ci := 16) (v := .ref aG) (C := RX13) (T := TX13) (N := 120) hx hb hts (fun _ h => List.mem_cons_of_mem _ (List.mem_append_right _ h)) hown hK hP 0 rfl rfl 106 (by decide) (hts (.fieldLink RX13 359 "KnotHouseModel" "signed" "[I") (by decide +kernel)) (fun _ h9 => h9) hkaG dX13_turnRound_156 ?_
            refine lv_iload hx hb dX13_turnRound_159 (lv_at hl 7 rfl) ?_
            refine lv_aload_n hx hb dX13_turnRound_161 rfl (lv_at hl 0 rfl) ?_
            refine va_get (D := (dC, dI)) (ci := 16) (v := .ref aG) (C := RX13) (T := TX13) (N := 120) hx hb hts (fun _ h => List.mem_cons_of_mem _ (List.mem_append_right _ h)) hown hK hP 0 rfl rfl 106 (by decide) (hts (.fieldLink RX13 359 "KnotHouseModel" "signed" "[I") (by decide +kernel)) (fun _ h9 => h9) hkaG dX13_turnRound_162 ?_
            refine lv_iload hx hb dX13_turnRound_165 (lv_at hl 7 rfl) ?_
            refine lv_iconst (v := 2) hx hb dX13_turnRound_167 (by decide) ?_
            refine lv_iadd hx hb dX13_turnRound_168 ?_
            refine ow_topi (y := nI (t + 2)) (nI_add t 2) ?_
            refine va_iald hx hb hK hP 6 0 rfl rfl (vp_in_nI (n := t + 2) (N := 400) (by omega) (by decide)) dX13_turnRound_169 ?_
            refine ow_topi (y := ow_sg (ow_dg w (t + 2))) ((congrArg fG (nI_clamp (n := t + 2) (by omega))).trans (hGb (t + 2) (by omega) (by omega))) ?_
            refine ow_iastU (j := t) hx hb hK hP hD hS 6 0 rfl rfl rfl (by omega) (by decide) dX13_turnRound_170 (fun f16 H locs ef16 nf16 hP hD hS => ?_)
            have hP : va_P (dC, dI) vwCl [(h0, .inr (16, fs)), (aZ, .inl (cI, 720, .inl fZ)), (aL, .inl (cI, 7200, .inl fL)), (aM, .inl (cI, 2880, .inl fM)), (aP, .inl (cI, 2880, .inl fP)), (aV, .inl (cI, 2880, .inl fV)), (aG, .inl (cI, 400, .inl f16))] H := hP
            have hD : va_D A [(h0, .inr (16, fs)), (aZ, .inl (cI, 720, .inl fZ)), (aL, .inl (cI, 7200, .inl fL)), (aM, .inl (cI, 2880, .inl fM)), (aP, .inl (cI, 2880, .inl fP)), (aV, .inl (cI, 2880, .inl fV)), (aG, .inl (cI, 400, .inl f16))] := hD
            refine lv_iinc (v := nI (t + 1)) (lv' := [(10, .int (nI (t + 1))), (0, .ref h0), (1, .int (nI n)), (2, .int (nI k)), (3, .int (nI j)), (4, .int (nI (120 * n + k))), (5, .int (nI sz)), (6, .int (nI i))]) hx hb dX13_turnRound_171 hl (k := 7) rfl (nI_1 t) (by decide) rfl (fun ls hl => ?_)
            refine lv_goto (tgt := 146) hx hb dX13_turnRound_174 (by decide) ?_
            refine ih_q (t + 1) (by omega) (by omega) H locs ls _ hP hD hS (lv_sub hl [1, 2, 3, 4, 5, 6, 7, 0] rfl) ?_ ?_
            · intro u9 h9
              rcases Nat.lt_or_ge u9 t with y9 | y9
              · rw [nf16 u9 (by omega)]
                exact hGa u9 y9
              · have e9 : u9 = t := by omega
                rw [e9, ef16]
                unfold ow_del
                rw [if_neg (by omega)]
            · intro u9 h9 y9
              rw [nf16 u9 (by omega)]
              exact hGb u9 (by omega) y9
        have hb1 := ow_dg16 w i
        refine lv_iload hx hb dX13_turnRound_74 (lv_at hl 6 rfl) ?_
        refine lv_iconst (v := 1) hx hb dX13_turnRound_76 (by decide) ?_
        refine lv_iadd hx hb dX13_turnRound_77 ?_
        refine ow_topi (y := nI (i + 1)) (nI_1 i) ?_
        refine lv_iload hx hb dX13_turnRound_78 (lv_at hl 5 rfl) ?_
        refine lv_icmp_ge (tgt := 303) hx hb dX13_turnRound_80 (by decide) (fun c9 => absurd c9 (nI_ge (a := i + 1) (b := sz) g1 (by omega))) (fun _ => ?_)
        refine lv_aload_n hx hb dX13_turnRound_83 rfl (lv_at hl 0 rfl) ?_
        refine va_get (D := (dC, dI)) (ci := 16) (v := .ref aG) (C := RX13) (T := TX13) (N := 120) hx hb hts (fun _ h => List.mem_cons_of_mem _ (List.mem_append_right _ h)) hown hK hP 0 rfl rfl 106 (by decide) (hts (.fieldLink RX13 359 "KnotHouseModel" "signed" "[I") (by decide +kernel)) (fun _ h9 => h9) hkaG dX13_turnRound_84 ?_
        refine lv_iload hx hb dX13_turnRound_87 (lv_at hl 6 rfl) ?_
        refine va_iald hx hb hK hP 6 0 rfl rfl (vp_in_nI (n := i) (N := 400) (by omega) (by decide)) dX13_turnRound_89 ?_
        refine ow_topi (y := ow_sg (ow_dg w i)) ((congrArg fG (nI_clamp (n := i) (by omega))).trans (hG i (by omega))) ?_
        refine lv_if_ge (tgt := 297) hx hb dX13_turnRound_90 (by decide) (fun c9 => absurd c9 (Int32.not_le.mpr ((ow_sgN _ (ow_dg16 w i) (hok i (by omega))).mpr g2))) (fun _ => ?_)
        refine lv_aload_n hx hb dX13_turnRound_93 rfl (lv_at hl 0 rfl) ?_
        refine va_get (D := (dC, dI)) (ci := 16) (v := .ref aG) (C := RX13) (T := TX13) (N := 120) hx hb hts (fun _ h => List.mem_cons_of_mem _ (List.mem_append_right _ h)) hown hK hP 0 rfl rfl 106 (by decide) (hts (.fieldLink RX13 359 "KnotHouseModel" "signed" "[I") (by decide +kernel)) (fun _ h9 => h9) hkaG dX13_turnRound_94 ?_
        refine lv_iload hx hb dX13_turnRound_97 (lv_at hl 6 rfl) ?_
        refine lv_iconst (v := 1) hx hb dX13_turnRound_99 (by decide) ?_
        refine lv_iadd hx hb dX13_turnRound_100 ?_
        refine ow_topi (y := nI (i + 1)) (nI_1 i) ?_
        refine va_iald hx hb hK hP 6 0 rfl rfl (vp_in_nI (n := i + 1) (N := 400) (by omega) (by decide)) dX13_turnRound_101 ?_
        refine ow_topi (y := ow_sg (ow_dg w (i + 1))) ((congrArg fG (nI_clamp (n := i + 1) (by omega))).trans (hG (i + 1) (by omega))) ?_
        refine lv_if_le (tgt := 297) hx hb dX13_turnRound_102 (by decide) (fun c9 => absurd c9 (fun h9 => absurd ((ow_sgP _ (ow_dg16 w (i + 1)) (hok (i + 1) g1)).mp h9) (by omega))) (fun _ => ?_)
        refine lv_iconst (v := 0) hx hb dX13_turnRound_105 (by decide) ?_
        refine lv_aload_n hx hb dX13_turnRound_106 rfl (lv_at hl 0 rfl) ?_
        refine va_get (D := (dC, dI)) (ci := 16) (v := .ref aG) (C := RX13) (T := TX13) (N := 120) hx hb hts (fun _ h => List.mem_cons_of_mem _ (List.mem_append_right _ h)) hown hK hP 0 rfl rfl 106 (by decide) (hts (.fieldLink RX13 359 "KnotHouseModel" "signed" "[I") (by decide +kernel)) (fun _ h9 => h9) hkaG dX13_turnRound_107 ?_
        refine lv_iload hx hb dX13_turnRound_110 (lv_at hl 6 rfl) ?_
        refine va_iald hx hb hK hP 6 0 rfl rfl (vp_in_nI (n := i) (N := 400) (by omega) (by decide)) dX13_turnRound_112 ?_
        refine ow_topi (y := ow_sg (ow_dg w i)) ((congrArg fG (nI_clamp (n := i) (by omega))).trans (hG i (by omega))) ?_
        refine lv_isub hx hb dX13_turnRound_113 ?_
        refine ow_topi (y := nI (ow_dg w i - 8)) (ow_sgI _ (ow_dg16 w i) g2) ?_
        refine lv_istore (lv' := [(7, .int (nI (ow_dg w i - 8))), (0, .ref h0), (1, .int (nI n)), (2, .int (nI k)), (3, .int (nI j)), (4, .int (nI (120 * n + k))), (5, .int (nI sz)), (6, .int (nI i))]) hx hb dX13_turnRound_114 hl (by decide) rfl (fun ls hl => ?_)
        refine lv_aload_n hx hb dX13_turnRound_116 rfl (lv_at hl 1 rfl) ?_
        refine va_get (D := (dC, dI)) (ci := 16) (v := .ref aG) (C := RX13) (T := TX13) (N := 120) hx hb hts (fun _ h => List.mem_cons_of_mem _ (List.mem_append_right _ h)) hown hK hP 0 rfl rfl 106 (by decide) (hts (.fieldLink RX13 359 "KnotHouseModel" "signed" "[I") (by decide +kernel)) (fun _ h9 => h9) hkaG dX13_turnRound_117 ?_
        refine lv_iload hx hb dX13_turnRound_120 (lv_at hl 7 rfl) ?_
        refine lv_iconst (v := 1) hx hb dX13_turnRound_122 (by decide) ?_
        refine lv_iadd hx hb dX13_turnRound_123 ?_
        refine ow_topi (y := nI (i + 1)) (nI_1 i) ?_
        refine va_iald hx hb hK hP 6 0 rfl rfl (vp_in_nI (n := i + 1) (N := 400) (by omega) (by decide)) dX13_turnRound_124 ?_
        refine ow_topi (y := nI (ow_dg w (i + 1))) ((congrArg fG (nI_clamp (n := i + 1) (by omega))).trans ((hG (i + 1) (by omega)).trans (ow_sgJ _ g3))) ?_
        refine lv_istore (lv' := [(8, .int (nI (ow_dg w (i + 1)))), (7, .int (nI (ow_dg w i - 8))), (0, .ref h0), (1, .int (nI n)), (2, .int (nI k)), (3, .int (nI j)), (4, .int (nI (120 * n + k))), (5, .int (nI sz)), (6, .int (nI i))]) hx hb dX13_turnRound_125 hl (by decide) rfl (fun ls hl => ?_)
        refine lv_iload hx hb dX13_turnRound_127 (lv_at hl 1 rfl) ?_
        refine lv_iload hx hb dX13_turnRound_129 (lv_at hl 0 rfl) ?_
        refine lv_isub hx hb dX13_turnRound_131 ?_
        refine va_mabs hx hb (by first | (rw [hml]; exact hl.1) | (rw [hml]; exact hl.1.symm)) hown (hts (.methodLink RX13 734 Lib.Math.abs.name) (by decide +kernel)) (hts (.static Lib.Math.abs.name) (by decide +kernel)) (hts (.initialized "java/lang/Math") (by decide +kernel)) (hts (.code Lib.Math.abs.name Lib.Math.abs.code 1 (some .int)) (by decide +kernel)) (Nat.le_of_ble_eq_true rfl) (Nat.le_of_ble_eq_true rfl) (Nat.le_of_ble_eq_true rfl) (Nat.le_of_ble_eq_true rfl) dX13_turnRound_132 ?_
        refine ow_topi (y := 0) (ow_abs0 _ (by omega) _ g3 (by omega)) ?_
        refine lv_istore (lv' := [(9, .int 0), (8, .int (nI (ow_dg w (i + 1)))), (7, .int (nI (ow_dg w i - 8))), (0, .ref h0), (1, .int (nI n)), (2, .int (nI k)), (3, .int (nI j)), (4, .int (nI (120 * n + k))), (5, .int (nI sz)), (6, .int (nI i))]) hx hb dX13_turnRound_135 hl (by decide) rfl (fun ls hl => ?_)
        refine lv_iload hx hb dX13_turnRound_137 (lv_at hl 0 rfl) ?_
        refine lv_if_ne (tgt := 183) hx hb dX13_turnRound_139 (by decide) (fun c9 => absurd c9 (not_not_intro rfl)) (fun _ => ?_)
        refine lv_iload hx hb dX13_turnRound_142 (lv_at hl 9 rfl) ?_
        refine lv_istore (lv' := [(10, .int (nI i)), (9, .int 0), (8, .int (nI (ow_dg w (i + 1)))), (7, .int (nI (ow_dg w i - 8))), (0, .ref h0), (1, .int (nI n)), (2, .int (nI k)), (3, .int (nI j)), (4, .int (nI (120 * n + k))), (5, .int (nI sz)), (6, .int (nI i))]) hx hb dX13_turnRound_144 hl (by decide) rfl (fun ls hl => ?_)
        exact L146 (sz - 2 - i) i (by omega) (Nat.le_refl i) H locs ls _ hP hD hS (lv_sub hl [4, 5, 6, 7, 8, 9, 10, 0] rfl) (fun u9 h9 => (hG u9 (by omega)).trans (by unfold ow_del; rw [if_pos h9])) (fun u9 _ h9 => hG u9 h9)
      · obtain ⟨g4, g5, g6, g7⟩ := g4
        have L195 : ∀ (q : Nat), i + 1 + q < sz → ∀ (H : Heap) (locs : List Loc) (ls : Array Slot) (fG : Nat → Int32), va_P (dC, dI) vwCl [(h0, .inr (16, fs)), (aZ, .inl (cI, 720, .inl fZ)), (aL, .inl (cI, 7200, .inl fL)), (aM, .inl (cI, 2880, .inl fM)), (aP, .inl (cI, 2880, .inl fP)), (aV, .inl (cI, 2880, .inl fV)), (aG, .inl (cI, 400, .inl fG))] H → va_D A [(h0, .inr (16, fs)), (aZ, .inl (cI, 720, .inl fZ)), (aL, .inl (cI, 7200, .inl fL)), (aM, .inl (cI, 2880, .inl fM)), (aP, .inl (cI, 2880, .inl fP)), (aV, .inl (cI, 2880, .inl fV)), (aG, .inl (cI, 400, .inl fG))] → va_S A s.heap H locs → lv_has ls 11 [(0, .ref h0), (1, .int (nI n)), (2, .int (nI k)), (3, .int (nI j)), (4, .int (nI (120 * n + k))), (5, .int (nI sz)), (6, .int (nI i)), (7, .int (nI (ow_dg w i - 8))), (8, .int (nI (ow_dg w (i + 1)))), (10, .int (nI (i + 1 + q)))] → (∀ u, i + 1 + q < u → u < sz → fG (u + 2) = ow_sg (ow_dg w u)) → (∀ u, u ≤ i + 1 + q → fG u = ow_sg (ow_dg w u)) → W p l e ({ frames := 1, cells := 0, slots := 0, locals := 40 } : Room) s m ([.ref h0, .int (nI n), .int (nI k), .int (nI j)] : List Value).toArray below meth c H locs 0 0 QQ (F0 m 195 ls []) := by
          intro q
          induction q with
          | zero =>
            intro hv_q H locs ls fG hP hD hS hl hGa hGb
            refine lv_iload hx hb dX13_turnRound_195 (lv_at hl 9 rfl) ?_
            refine lv_iload hx hb dX13_turnRound_197 (lv_at hl 6 rfl) ?_
            refine lv_iconst (v := 2) hx hb dX13_turnRound_199 (by decide) ?_
            refine lv_iadd hx hb dX13_turnRound_200 ?_
            refine ow_topi (y := nI (i + 2)) (nI_add i 2) ?_
            refine lv_icmp_lt (tgt := 226) hx hb dX13_turnRound_201 (by decide) (fun _ => ?_) (fun c9 => absurd (Int32.not_le.mp (nI_ge (a := i + 1 + 0) (b := i + 2) (by omega) (by omega))) c9)
            refine lv_iinc (v := nI (sz + 2)) (lv' := [(5, .int (nI (sz + 2))), (0, .ref h0), (1, .int (nI n)), (2, .int (nI k)), (3, .int (nI j)), (4, .int (nI (120 * n + k))), (6, .int (nI i)), (7, .int (nI (ow_dg w i - 8))), (8, .int (nI (ow_dg w (i + 1)))), (10, .int (nI (i + 1 + 0)))]) hx hb dX13_turnRound_226 hl (k := 5) rfl (nI_add sz 2) (by decide) rfl (fun ls hl => ?_)
            refine lv_aload_n hx hb dX13_turnRound_229 rfl (lv_at hl 1 rfl) ?_
            refine va_get (D := (dC, dI)) (ci := 16) (v := .ref aG) (C := RX13) (T := TX13) (N := 120) hx hb hts (fun _ h => List.mem_cons_of_mem _ (List.mem_append_right _ h)) hown hK hP 0 rfl rfl 106 (by decide) (hts (.fieldLink RX13 359 "KnotHouseModel" "signed" "[I") (by decide +kernel)) (fun _ h9 => h9) hkaG dX13_turnRound_230 ?_
            refine lv_iload hx hb dX13_turnRound_233 (lv_at hl 6 rfl) ?_
            refine lv_iconst (v := 1) hx hb dX13_turnRound_235 (by decide) ?_
            refine lv_iadd hx hb dX13_turnRound_236 ?_
            refine ow_topi (y := nI (i + 1)) (nI_1 i) ?_
            refine lv_iload hx hb dX13_turnRound_237 (lv_at hl 7 rfl) ?_
            refine ow_iastU (j := i + 1) hx hb hK hP hD hS 6 0 rfl rfl rfl (by omega) (by decide) dX13_turnRound_239 (fun f21 H locs ef21 nf21 hP hD hS => ?_)
            have hP : va_P (dC, dI) vwCl [(h0, .inr (16, fs)), (aZ, .inl (cI, 720, .inl fZ)), (aL, .inl (cI, 7200, .inl fL)), (aM, .inl (cI, 2880, .inl fM)), (aP, .inl (cI, 2880, .inl fP)), (aV, .inl (cI, 2880, .inl fV)), (aG, .inl (cI, 400, .inl f21))] H := hP
            have hD : va_D A [(h0, .inr (16, fs)), (aZ, .inl (cI, 720, .inl fZ)), (aL, .inl (cI, 7200, .inl fL)), (aM, .inl (cI, 2880, .inl fM)), (aP, .inl (cI, 2880, .inl fP)), (aV, .inl (cI, 2880, .inl fV)), (aG, .inl (cI, 400, .inl f21))] := hD
            refine lv_aload_n hx hb dX13_turnRound_240 rfl (lv_at hl 1 rfl) ?_
            refine va_get (D := (dC, dI)) (ci := 16) (v := .ref aG) (C := RX13) (T := TX13) (N := 120) hx hb hts (fun _ h => List.mem_cons_of_mem _ (List.mem_append_right _ h)) hown hK hP 0 rfl rfl 106 (by decide) (hts (.fieldLink RX13 359 "KnotHouseModel" "signed" "[I") (by decide +kernel)) (fun _ h9 => h9) hkaG dX13_turnRound_241 ?_
            refine lv_iload hx hb dX13_turnRound_244 (lv_at hl 6 rfl) ?_
            refine lv_iconst (v := 2) hx hb dX13_turnRound_246 (by decide) ?_
            refine lv_iadd hx hb dX13_turnRound_247 ?_
            refine ow_topi (y := nI (i + 2)) (nI_add i 2) ?_
            refine lv_iconst (v := 0) hx hb dX13_turnRound_248 (by decide) ?_
            refine lv_iload hx hb dX13_turnRound_249 (lv_at hl 8 rfl) ?_
            refine lv_isub hx hb dX13_turnRound_251 ?_
            refine ow_topi (y := ow_sg (ow_dg w (i + 1) + 8)) (ow_sgM _ g3) ?_
            refine ow_iastU (j := i + 2) hx hb hK hP hD hS 6 0 rfl rfl rfl (by omega) (by decide) dX13_turnRound_252 (fun f22 H locs ef22 nf22 hP hD hS => ?_)
            have hP : va_P (dC, dI) vwCl [(h0, .inr (16, fs)), (aZ, .inl (cI, 720, .inl fZ)), (aL, .inl (cI, 7200, .inl fL)), (aM, .inl (cI, 2880, .inl fM)), (aP, .inl (cI, 2880, .inl fP)), (aV, .inl (cI, 2880, .inl fV)), (aG, .inl (cI, 400, .inl f22))] H := hP
            have hD : va_D A [(h0, .inr (16, fs)), (aZ, .inl (cI, 720, .inl fZ)), (aL, .inl (cI, 7200, .inl fL)), (aM, .inl (cI, 2880, .inl fM)), (aP, .inl (cI, 2880, .inl fP)), (aV, .inl (cI, 2880, .inl fV)), (aG, .inl (cI, 400, .inl f22))] := hD
            refine lv_aload_n hx hb dX13_turnRound_253 rfl (lv_at hl 1 rfl) ?_
            refine va_get (D := (dC, dI)) (ci := 16) (v := .ref aG) (C := RX13) (T := TX13) (N := 120) hx hb hts (fun _ h => List.mem_cons_of_mem _ (List.mem_append_right _ h)) hown hK hP 0 rfl rfl 106 (by decide) (hts (.fieldLink RX13 359 "KnotHouseModel" "signed" "[I") (by decide +kernel)) (fun _ h9 => h9) hkaG dX13_turnRound_254 ?_
            refine lv_iload hx hb dX13_turnRound_257 (lv_at hl 6 rfl) ?_
            refine lv_iconst (v := 3) hx hb dX13_turnRound_259 (by decide) ?_
            refine lv_iadd hx hb dX13_turnRound_260 ?_
            refine ow_topi (y := nI (i + 3)) (nI_add i 3) ?_
            refine lv_iconst (v := 0) hx hb dX13_turnRound_261 (by decide) ?_
            refine lv_iload hx hb dX13_turnRound_262 (lv_at hl 7 rfl) ?_
            refine lv_isub hx hb dX13_turnRound_264 ?_
            refine ow_topi (y := ow_sg (ow_dg w i)) (ow_sgK _ (ow_dg16 w i) g2) ?_
            refine ow_iastU (j := i + 3) hx hb hK hP hD hS 6 0 rfl rfl rfl (by omega) (by decide) dX13_turnRound_265 (fun f23 H locs ef23 nf23 hP hD hS => ?_)
            have hP : va_P (dC, dI) vwCl [(h0, .inr (16, fs)), (aZ, .inl (cI, 720, .inl fZ)), (aL, .inl (cI, 7200, .inl fL)), (aM, .inl (cI, 2880, .inl fM)), (aP, .inl (cI, 2880, .inl fP)), (aV, .inl (cI, 2880, .inl fV)), (aG, .inl (cI, 400, .inl f23))] H := hP
            have hD : va_D A [(h0, .inr (16, fs)), (aZ, .inl (cI, 720, .inl fZ)), (aL, .inl (cI, 7200, .inl fL)), (aM, .inl (cI, 2880, .inl fM)), (aP, .inl (cI, 2880, .inl fP)), (aV, .inl (cI, 2880, .inl fV)), (aG, .inl (cI, 400, .inl f23))] := hD
            refine lv_goto (tgt := 282) hx hb dX13_turnRound_266 (by decide) ?_
            refine lv_aload_n hx hb dX13_turnRound_282 rfl (lv_at hl 1 rfl) ?_
            refine va_get (D := (dC, dI)) (ci := 16) (v := .ref aG) (C := RX13) (T := TX13) (N := 120) hx hb hts (fun _ h => List.mem_cons_of_mem _ (List.mem_append_right _ h)) hown hK hP 0 rfl rfl 106 (by decide) (hts (.fieldLink RX13 359 "KnotHouseModel" "signed" "[I") (by decide +kernel)) (fun _ h9 => h9) hkaG dX13_turnRound_283 ?_
            refine lv_iload hx hb dX13_turnRound_286 (lv_at hl 6 rfl) ?_
            refine lv_iload hx hb dX13_turnRound_288 (lv_at hl 8 rfl) ?_
            refine ow_iastU (j := i) hx hb hK hP hD hS 6 0 rfl rfl rfl (by omega) (by decide) dX13_turnRound_290 (fun f24 H locs ef24 nf24 hP hD hS => ?_)
            have hP : va_P (dC, dI) vwCl [(h0, .inr (16, fs)), (aZ, .inl (cI, 720, .inl fZ)), (aL, .inl (cI, 7200, .inl fL)), (aM, .inl (cI, 2880, .inl fM)), (aP, .inl (cI, 2880, .inl fP)), (aV, .inl (cI, 2880, .inl fV)), (aG, .inl (cI, 400, .inl f24))] H := hP
            have hD : va_D A [(h0, .inr (16, fs)), (aZ, .inl (cI, 720, .inl fZ)), (aL, .inl (cI, 7200, .inl fL)), (aM, .inl (cI, 2880, .inl fM)), (aP, .inl (cI, 2880, .inl fP)), (aV, .inl (cI, 2880, .inl fV)), (aG, .inl (cI, 400, .inl f24))] := hD
            refine lv_iconst (v := 0) hx hb dX13_turnRound_291 (by decide) ?_
            refine ow_topi (y := nI 0) (by decide) ?_
            refine lv_istore (lv' := [(6, .int (nI 0)), (5, .int (nI (sz + 2))), (0, .ref h0), (1, .int (nI n)), (2, .int (nI k)), (3, .int (nI j)), (4, .int (nI (120 * n + k))), (7, .int (nI (ow_dg w i - 8))), (8, .int (nI (ow_dg w (i + 1)))), (10, .int (nI (i + 1 + 0)))]) hx hb dX13_turnRound_292 hl (by decide) rfl (fun ls hl => ?_)
            refine lv_goto (tgt := 74) hx hb dX13_turnRound_294 (by decide) ?_
            exact ih_fu (sz + 2) 0 _ g7 g6 (Nat.zero_le _) (ow_ins_ok hok g1 g2 g3) H locs ls _ hP hD hS (lv_sub hl [2, 3, 4, 5, 6, 1, 0] rfl) (ow_insG g2 g3 (fun u9 h9 y9 => hGa u9 h9 y9) (fun u9 h9 => hGb u9 h9) ef21 nf21 ef22 nf22 ef23 nf23 ef24 nf24)
          | succ q ih_q =>
            intro hv_q H locs ls fG hP hD hS hl hGa hGb
            refine lv_iload hx hb dX13_turnRound_195 (lv_at hl 9 rfl) ?_
            refine lv_iload hx hb dX13_turnRound_197 (lv_at hl 6 rfl) ?_
            refine lv_iconst (v := 2) hx hb dX13_turnRound_199 (by decide) ?_
            refine lv_iadd hx hb dX13_turnRound_200 ?_
            refine ow_topi (y := nI (i + 2)) (nI_add i 2) ?_
            refine lv_icmp_lt (tgt := 226) hx hb dX13_turnRound_201 (by decide) (fun c9 => absurd c9 (Int32.not_lt.mpr (nI_le (a := i + 2) (b := i + 1 + (q + 1)) (by omega) (by omega)))) (fun _ => ?_)
            refine lv_aload_n hx hb dX13_turnRound_204 rfl (lv_at hl 0 rfl) ?_
            refine va_get (D := (dC, dI)) (ci := 16) (v := .ref aG) (C := RX13) (T := TX13) (N := 120) hx hb hts (fun _ h => List.mem_cons_of_mem _ (List.mem_append_right _ h)) hown hK hP 0 rfl rfl 106 (by decide) (hts (.fieldLink RX13 359 "KnotHouseModel" "signed" "[I") (by decide +kernel)) (fun _ h9 => h9) hkaG dX13_turnRound_205 ?_
            refine lv_iload hx hb dX13_turnRound_208 (lv_at hl 9 rfl) ?_
            refine lv_iconst (v := 2) hx hb dX13_turnRound_210 (by decide) ?_
            refine lv_iadd hx hb dX13_turnRound_211 ?_
            refine ow_topi (y := nI (i + 1 + (q + 1) + 2)) (nI_add (i + 1 + (q + 1)) 2) ?_
            refine lv_aload_n hx hb dX13_turnRound_212 rfl (lv_at hl 0 rfl) ?_
            refine va_get (D := (dC, dI)) (ci := 16) (v := .ref aG) (C := RX13) (T := TX13) (N := 120) hx hb hts (fun _ h => List.mem_cons_of_mem _ (List.mem_append_right _ h)) hown hK hP 0 rfl rfl 106 (by decide) (hts (.fieldLink RX13 359 "KnotHouseModel" "signed" "[I") (by decide +kernel)) (fun _ h9 => h9) hkaG dX13_turnRound_213 ?_
            refine lv_iload hx hb dX13_turnRound_216 (lv_at hl 9 rfl) ?_
            refine va_iald hx hb hK hP 6 0 rfl rfl (vp_in_nI (n := i + 1 + (q + 1)) (N := 400) (by omega) (by decide)) dX13_turnRound_218 ?_
            refine ow_topi (y := ow_sg (ow_dg w (i + 1 + (q + 1)))) ((congrArg fG (nI_clamp (n := i + 1 + (q + 1)) (by omega))).trans (hGb _ (Nat.le_refl _))) ?_
            refine ow_iastU (j := i + 1 + (q + 1) + 2) hx hb hK hP hD hS 6 0 rfl rfl rfl (by omega) (by decide) dX13_turnRound_219 (fun f26 H locs ef26 nf26 hP hD hS => ?_)
            have hP : va_P (dC, dI) vwCl [(h0, .inr (16, fs)), (aZ, .inl (cI, 720, .inl fZ)), (aL, .inl (cI, 7200, .inl fL)), (aM, .inl (cI, 2880, .inl fM)), (aP, .inl (cI, 2880, .inl fP)), (aV, .inl (cI, 2880, .inl fV)), (aG, .inl (cI, 400, .inl f26))] H := hP
            have hD : va_D A [(h0, .inr (16, fs)), (aZ, .inl (cI, 720, .inl fZ)), (aL, .inl (cI, 7200, .inl fL)), (aM, .inl (cI, 2880, .inl fM)), (aP, .inl (cI, 2880, .inl fP)), (aV, .inl (cI, 2880, .inl fV)), (aG, .inl (cI, 400, .inl f26))] := hD
            refine lv_iinc (v := nI (i + 1 + q)) (lv' := [(10, .int (nI (i + 1 + q))), (0, .ref h0), (1, .int (nI n)), (2, .int (nI k)), (3, .int (nI j)), (4, .int (nI (120 * n + k))), (5, .int (nI sz)), (6, .int (nI i)), (7, .int (nI (ow_dg w i - 8))), (8, .int (nI (ow_dg w (i + 1))))]) hx hb dX13_turnRound_220 hl (k := 9) rfl (ow_dec1 (i + 1 + q)) (by decide) rfl (fun ls hl => ?_)
            refine lv_goto (tgt := 195) hx hb dX13_turnRound_223 (by decide) ?_
            refine ih_q (by omega) H locs ls _ hP hD hS (lv_sub hl [1, 2, 3, 4, 5, 6, 7, 8, 9, 0] rfl) ?_ ?_
            · intro u9 h9 y9
              rcases Nat.lt_or_ge (i + 1 + (q + 1)) u9 with z9 | z9
              · rw [nf26 (u9 + 2) (by omega)]
                exact hGa u9 z9 y9
              · have e9 : u9 = i + 1 + (q + 1) := by omega
                rw [e9]
                exact ef26
            · intro u9 h9
              rw [nf26 u9 (by omega)]
              exact hGb u9 (by omega)
        have hb1 := ow_dg16 w i
        refine lv_iload hx hb dX13_turnRound_74 (lv_at hl 6 rfl) ?_
        refine lv_iconst (v := 1) hx hb dX13_turnRound_76 (by decide) ?_
        refine lv_iadd hx hb dX13_turnRound_77 ?_
        refine ow_topi (y := nI (i + 1)) (nI_1 i) ?_
        refine lv_iload hx hb dX13_turnRound_78 (lv_at hl 5 rfl) ?_
        refine lv_icmp_ge (tgt := 303) hx hb dX13_turnRound_80 (by decide) (fun c9 => absurd c9 (nI_ge (a := i + 1) (b := sz) g1 (by omega))) (fun _ => ?_)
        refine lv_aload_n hx hb dX13_turnRound_83 rfl (lv_at hl 0 rfl) ?_
        refine va_get (D := (dC, dI)) (ci := 16) (v := .ref aG) (C := RX13) (T := TX13) (N := 120) hx hb hts (fun _ h => List.mem_cons_of_mem _ (List.mem_append_right _ h)) hown hK hP 0 rfl rfl 106 (by decide) (hts (.fieldLink RX13 359 "KnotHouseModel" "signed" "[I") (by decide +kernel)) (fun _ h9 => h9) hkaG dX13_turnRound_84 ?_
        refine lv_iload hx hb dX13_turnRound_87 (lv_at hl 6 rfl) ?_
        refine va_iald hx hb hK hP 6 0 rfl rfl (vp_in_nI (n := i) (N := 400) (by omega) (by decide)) dX13_turnRound_89 ?_
        refine ow_topi (y := ow_sg (ow_dg w i)) ((congrArg fG (nI_clamp (n := i) (by omega))).trans (hG i (by omega))) ?_
        refine lv_if_ge (tgt := 297) hx hb dX13_turnRound_90 (by decide) (fun c9 => absurd c9 (Int32.not_le.mpr ((ow_sgN _ (ow_dg16 w i) (hok i (by omega))).mpr g2))) (fun _ => ?_)
        refine lv_aload_n hx hb dX13_turnRound_93 rfl (lv_at hl 0 rfl) ?_
        refine va_get (D := (dC, dI)) (ci := 16) (v := .ref aG) (C := RX13) (T := TX13) (N := 120) hx hb hts (fun _ h => List.mem_cons_of_mem _ (List.mem_append_right _ h)) hown hK hP 0 rfl rfl 106 (by decide) (hts (.fieldLink RX13 359 "KnotHouseModel" "signed" "[I") (by decide +kernel)) (fun _ h9 => h9) hkaG dX13_turnRound_94 ?_
        refine lv_iload hx hb dX13_turnRound_97 (lv_at hl 6 rfl) ?_
        refine lv_iconst (v := 1) hx hb dX13_turnRound_99 (by decide) ?_
        refine lv_iadd hx hb dX13_turnRound_100 ?_
        refine ow_topi (y := nI (i + 1)) (nI_1 i) ?_
        refine va_iald hx hb hK hP 6 0 rfl rfl (vp_in_nI (n := i + 1) (N := 400) (by omega) (by decide)) dX13_turnRound_101 ?_
        refine ow_topi (y := ow_sg (ow_dg w (i + 1))) ((congrArg fG (nI_clamp (n := i + 1) (by omega))).trans (hG (i + 1) (by omega))) ?_
        refine lv_if_le (tgt := 297) hx hb dX13_turnRound_102 (by decide) (fun c9 => absurd c9 (fun h9 => absurd ((ow_sgP _ (ow_dg16 w (i + 1)) (hok (i + 1) g1)).mp h9) (by omega))) (fun _ => ?_)
        refine lv_iconst (v := 0) hx hb dX13_turnRound_105 (by decide) ?_
        refine lv_aload_n hx hb dX13_turnRound_106 rfl (lv_at hl 0 rfl) ?_
        refine va_get (D := (dC, dI)) (ci := 16) (v := .ref aG) (C := RX13) (T := TX13) (N := 120) hx hb hts (fun _ h => List.mem_cons_of_mem _ (List.mem_append_right _ h)) hown hK hP 0 rfl rfl 106 (by decide) (hts (.fieldLink RX13 359 "KnotHouseModel" "signed" "[I") (by decide +kernel)) (fun _ h9 => h9) hkaG dX13_turnRound_107 ?_
        refine lv_iload hx hb dX13_turnRound_110 (lv_at hl 6 rfl) ?_
        refine va_iald hx hb hK hP 6 0 rfl rfl (vp_in_nI (n := i) (N := 400) (by omega) (by decide)) dX13_turnRound_112 ?_
        refine ow_topi (y := ow_sg (ow_dg w i)) ((congrArg fG (nI_clamp (n := i) (by omega))).trans (hG i (by omega))) ?_
        refine lv_isub hx hb dX13_turnRound_113 ?_
        refine ow_topi (y := nI (ow_dg w i - 8)) (ow_sgI _ (ow_dg16 w i) g2) ?_
        refine lv_istore (lv' := [(7, .int (nI (ow_dg w i - 8))), (0, .ref h0), (1, .int (nI n)), (2, .int (nI k)), (3, .int (nI j)), (4, .int (nI (120 * n + k))), (5, .int (nI sz)), (6, .int (nI i))]) hx hb dX13_turnRound_114 hl (by decide) rfl (fun ls hl => ?_)
        refine lv_aload_n hx hb dX13_turnRound_116 rfl (lv_at hl 1 rfl) ?_
        refine va_get (D := (dC, dI)) (ci := 16) (v := .ref aG) (C := RX13) (T := TX13) (N := 120) hx hb hts (fun _ h => List.mem_cons_of_mem _ (List.mem_append_right _ h)) hown hK hP 0 rfl rfl 106 (by decide) (hts (.fieldLink RX13 359 "KnotHouseModel" "signed" "[I") (by decide +kernel)) (fun _ h9 => h9) hkaG dX13_turnRound_117 ?_
        refine lv_iload hx hb dX13_turnRound_120 (lv_at hl 7 rfl) ?_
        refine lv_iconst (v := 1) hx hb dX13_turnRound_122 (by decide) ?_
        refine lv_iadd hx hb dX13_turnRound_123 ?_
        refine ow_topi (y := nI (i + 1)) (nI_1 i) ?_
        refine va_iald hx hb hK hP 6 0 rfl rfl (vp_in_nI (n := i + 1) (N := 400) (by omega) (by decide)) dX13_turnRound_124 ?_
        refine ow_topi (y := nI (ow_dg w (i + 1))) ((congrArg fG (nI_clamp (n := i + 1) (by omega))).trans ((hG (i + 1) (by omega)).trans (ow_sgJ _ g3))) ?_
        refine lv_istore (lv' := [(8, .int (nI (ow_dg w (i + 1)))), (7, .int (nI (ow_dg w i - 8))), (0, .ref h0), (1, .int (nI n)), (2, .int (nI k)), (3, .int (nI j)), (4, .int (nI (120 * n + k))), (5, .int (nI sz)), (6, .int (nI i))]) hx hb dX13_turnRound_125 hl (by decide) rfl (fun ls hl => ?_)
        refine lv_iload hx hb dX13_turnRound_127 (lv_at hl 1 rfl) ?_
        refine lv_iload hx hb dX13_turnRound_129 (lv_at hl 0 rfl) ?_
        refine lv_isub hx hb dX13_turnRound_131 ?_
        refine va_mabs hx hb (by first | (rw [hml]; exact hl.1) | (rw [hml]; exact hl.1.symm)) hown (hts (.methodLink RX13 734 Lib.Math.abs.name) (by decide +kernel)) (hts (.static Lib.Math.abs.name) (by decide +kernel)) (hts (.initialized "java/lang/Math") (by decide +kernel)) (hts (.code Lib.Math.abs.name Lib.Math.abs.code 1 (some .int)) (by decide +kernel)) (Nat.le_of_ble_eq_true rfl) (Nat.le_of_ble_eq_true rfl) (Nat.le_of_ble_eq_true rfl) (Nat.le_of_ble_eq_true rfl) dX13_turnRound_132 ?_
        refine ow_topi (y := 1) (ow_abs1 _ (by omega) _ g3 (by omega)) ?_
        refine lv_istore (lv' := [(9, .int 1), (8, .int (nI (ow_dg w (i + 1)))), (7, .int (nI (ow_dg w i - 8))), (0, .ref h0), (1, .int (nI n)), (2, .int (nI k)), (3, .int (nI j)), (4, .int (nI (120 * n + k))), (5, .int (nI sz)), (6, .int (nI i))]) hx hb dX13_turnRound_135 hl (by decide) rfl (fun ls hl => ?_)
        refine lv_iload hx hb dX13_turnRound_137 (lv_at hl 0 rfl) ?_
        refine lv_if_ne (tgt := 183) hx hb dX13_turnRound_139 (by decide) (fun _ => ?_) (fun c9 => absurd c9 (by decide))
        refine lv_iload hx hb dX13_turnRound_183 (lv_at hl 0 rfl) ?_
        refine lv_iconst (v := 1) hx hb dX13_turnRound_185 (by decide) ?_
        refine lv_icmp_ne (tgt := 269) hx hb dX13_turnRound_186 (by decide) (fun c9 => absurd c9 (not_not_intro rfl)) (fun _ => ?_)
        refine lv_iload hx hb dX13_turnRound_189 (lv_at hl 8 rfl) ?_
        refine lv_iconst (v := 1) hx hb dX13_turnRound_191 (by decide) ?_
        refine lv_isub hx hb dX13_turnRound_192 ?_
        refine ow_topi (y := nI (i + 1 + (sz - 2 - i))) ((pk_sub (a := sz) (b := 1) (by omega)).trans (congrArg nI (by omega))) ?_
        refine lv_istore (lv' := [(10, .int (nI (i + 1 + (sz - 2 - i)))), (9, .int 1), (8, .int (nI (ow_dg w (i + 1)))), (7, .int (nI (ow_dg w i - 8))), (0, .ref h0), (1, .int (nI n)), (2, .int (nI k)), (3, .int (nI j)), (4, .int (nI (120 * n + k))), (5, .int (nI sz)), (6, .int (nI i))]) hx hb dX13_turnRound_193 hl (by decide) rfl (fun ls hl => ?_)
        exact L195 (sz - 2 - i) (by omega) H locs ls _ hP hD hS (lv_sub hl [4, 5, 6, 7, 8, 9, 10, 3, 2, 0] rfl) (fun u9 h9 y9 => absurd y9 (by omega)) (fun u9 h9 => hG u9 (by omega))
      · obtain ⟨g4, g5, g6⟩ := g4
        have hb1 := ow_dg16 w i
        refine lv_iload hx hb dX13_turnRound_74 (lv_at hl 6 rfl) ?_
        refine lv_iconst (v := 1) hx hb dX13_turnRound_76 (by decide) ?_
        refine lv_iadd hx hb dX13_turnRound_77 ?_
        refine ow_topi (y := nI (i + 1)) (nI_1 i) ?_
        refine lv_iload hx hb dX13_turnRound_78 (lv_at hl 5 rfl) ?_
        refine lv_icmp_ge (tgt := 303) hx hb dX13_turnRound_80 (by decide) (fun c9 => absurd c9 (nI_ge (a := i + 1) (b := sz) g1 (by omega))) (fun _ => ?_)
        refine lv_aload_n hx hb dX13_turnRound_83 rfl (lv_at hl 0 rfl) ?_
        refine va_get (D := (dC, dI)) (ci := 16) (v := .ref aG) (C := RX13) (T := TX13) (N := 120) hx hb hts (fun _ h => List.mem_cons_of_mem _ (List.mem_append_right _ h)) hown hK hP 0 rfl rfl 106 (by decide) (hts (.fieldLink RX13 359 "KnotHouseModel" "signed" "[I") (by decide +kernel)) (fun _ h9 => h9) hkaG dX13_turnRound_84 ?_
        refine lv_iload hx hb dX13_turnRound_87 (lv_at hl 6 rfl) ?_
        refine va_iald hx hb hK hP 6 0 rfl rfl (vp_in_nI (n := i) (N := 400) (by omega) (by decide)) dX13_turnRound_89 ?_
        refine ow_topi (y := ow_sg (ow_dg w i)) ((congrArg fG (nI_clamp (n := i) (by omega))).trans (hG i (by omega))) ?_
        refine lv_if_ge (tgt := 297) hx hb dX13_turnRound_90 (by decide) (fun c9 => absurd c9 (Int32.not_le.mpr ((ow_sgN _ (ow_dg16 w i) (hok i (by omega))).mpr g2))) (fun _ => ?_)
        refine lv_aload_n hx hb dX13_turnRound_93 rfl (lv_at hl 0 rfl) ?_
        refine va_get (D := (dC, dI)) (ci := 16) (v := .ref aG) (C := RX13) (T := TX13) (N := 120) hx hb hts (fun _ h => List.mem_cons_of_mem _ (List.mem_append_right _ h)) hown hK hP 0 rfl rfl 106 (by decide) (hts (.fieldLink RX13 359 "KnotHouseModel" "signed" "[I") (by decide +kernel)) (fun _ h9 => h9) hkaG dX13_turnRound_94 ?_
        refine lv_iload hx hb dX13_turnRound_97 (lv_at hl 6 rfl) ?_
        refine lv_iconst (v := 1) hx hb dX13_turnRound_99 (by decide) ?_
        refine lv_iadd hx hb dX13_turnRound_100 ?_
        refine ow_topi (y := nI (i + 1)) (nI_1 i) ?_
        refine va_iald hx hb hK hP 6 0 rfl rfl (vp_in_nI (n := i + 1) (N := 400) (by omega) (by decide)) dX13_turnRound_101 ?_
        refine ow_topi (y := ow_sg (ow_dg w (i + 1))) ((congrArg fG (nI_clamp (n := i + 1) (by omega))).trans (hG (i + 1) (by omega))) ?_
        refine lv_if_le (tgt := 297) hx hb dX13_turnRound_102 (by decide) (fun c9 => absurd c9 (fun h9 => absurd ((ow_sgP _ (ow_dg16 w (i + 1)) (hok (i + 1) g1)).mp h9) (by omega))) (fun _ => ?_)
        refine lv_iconst (v := 0) hx hb dX13_turnRound_105 (by decide) ?_
        refine lv_aload_n hx hb dX13_turnRound_106 rfl (lv_at hl 0 rfl) ?_
        refine va_get (D := (dC, dI)) (ci := 16) (v := .ref aG) (C := RX13) (T := TX13) (N := 120) hx hb hts (fun _ h => List.mem_cons_of_mem _ (List.mem_append_right _ h)) hown hK hP 0 rfl rfl 106 (by decide) (hts (.fieldLink RX13 359 "KnotHouseModel" "signed" "[I") (by decide +kernel)) (fun _ h9 => h9) hkaG dX13_turnRound_107 ?_
        refine lv_iload hx hb dX13_turnRound_110 (lv_at hl 6 rfl) ?_
        refine va_iald hx hb hK hP 6 0 rfl rfl (vp_in_nI (n := i) (N := 400) (by omega) (by decide)) dX13_turnRound_112 ?_
        refine ow_topi (y := ow_sg (ow_dg w i)) ((congrArg fG (nI_clamp (n := i) (by omega))).trans (hG i (by omega))) ?_
        refine lv_isub hx hb dX13_turnRound_113 ?_
        refine ow_topi (y := nI (ow_dg w i - 8)) (ow_sgI _ (ow_dg16 w i) g2) ?_
        refine lv_istore (lv' := [(7, .int (nI (ow_dg w i - 8))), (0, .ref h0), (1, .int (nI n)), (2, .int (nI k)), (3, .int (nI j)), (4, .int (nI (120 * n + k))), (5, .int (nI sz)), (6, .int (nI i))]) hx hb dX13_turnRound_114 hl (by decide) rfl (fun ls hl => ?_)
        refine lv_aload_n hx hb dX13_turnRound_116 rfl (lv_at hl 1 rfl) ?_
        refine va_get (D := (dC, dI)) (ci := 16) (v := .ref aG) (C := RX13) (T := TX13) (N := 120) hx hb hts (fun _ h => List.mem_cons_of_mem _ (List.mem_append_right _ h)) hown hK hP 0 rfl rfl 106 (by decide) (hts (.fieldLink RX13 359 "KnotHouseModel" "signed" "[I") (by decide +kernel)) (fun _ h9 => h9) hkaG dX13_turnRound_117 ?_
        refine lv_iload hx hb dX13_turnRound_120 (lv_at hl 7 rfl) ?_
        refine lv_iconst (v := 1) hx hb dX13_turnRound_122 (by decide) ?_
        refine lv_iadd hx hb dX13_turnRound_123 ?_
        refine ow_topi (y := nI (i + 1)) (nI_1 i) ?_
        refine va_iald hx hb hK hP 6 0 rfl rfl (vp_in_nI (n := i + 1) (N := 400) (by omega) (by decide)) dX13_turnRound_124 ?_
        refine ow_topi (y := nI (ow_dg w (i + 1))) ((congrArg fG (nI_clamp (n := i + 1) (by omega))).trans ((hG (i + 1) (by omega)).trans (ow_sgJ _ g3))) ?_
        refine lv_istore (lv' := [(8, .int (nI (ow_dg w (i + 1)))), (7, .int (nI (ow_dg w i - 8))), (0, .ref h0), (1, .int (nI n)), (2, .int (nI k)), (3, .int (nI j)), (4, .int (nI (120 * n + k))), (5, .int (nI sz)), (6, .int (nI i))]) hx hb dX13_turnRound_125 hl (by decide) rfl (fun ls hl => ?_)
        refine lv_iload hx hb dX13_turnRound_127 (lv_at hl 1 rfl) ?_
        refine lv_iload hx hb dX13_turnRound_129 (lv_at hl 0 rfl) ?_
        refine lv_isub hx hb dX13_turnRound_131 ?_
        refine va_mabs hx hb (by first | (rw [hml]; exact hl.1) | (rw [hml]; exact hl.1.symm)) hown (hts (.methodLink RX13 734 Lib.Math.abs.name) (by decide +kernel)) (hts (.static Lib.Math.abs.name) (by decide +kernel)) (hts (.initialized "java/lang/Math") (by decide +kernel)) (hts (.code Lib.Math.abs.name Lib.Math.abs.code 1 (some .int)) (by decide +kernel)) (Nat.le_of_ble_eq_true rfl) (Nat.le_of_ble_eq_true rfl) (Nat.le_of_ble_eq_true rfl) (Nat.le_of_ble_eq_true rfl) dX13_turnRound_132 ?_
        have ha2 := ow_abs2 (ow_dg w i - 8) (by omega) (ow_dg w (i + 1)) g3 (by omega) (by omega)
        refine lv_istore (lv' := [(9, .int (if 0 ≤ nI (ow_dg w i - 8) - nI (ow_dg w (i + 1)) then nI (ow_dg w i - 8) - nI (ow_dg w (i + 1)) else 0 - (nI (ow_dg w i - 8) - nI (ow_dg w (i + 1))))), (8, .int (nI (ow_dg w (i + 1)))), (7, .int (nI (ow_dg w i - 8))), (0, .ref h0), (1, .int (nI n)), (2, .int (nI k)), (3, .int (nI j)), (4, .int (nI (120 * n + k))), (5, .int (nI sz)), (6, .int (nI i))]) hx hb dX13_turnRound_135 hl (by decide) rfl (fun ls hl => ?_)
        refine lv_iload hx hb dX13_turnRound_137 (lv_at hl 0 rfl) ?_
        refine lv_if_ne (tgt := 183) hx hb dX13_turnRound_139 (by decide) (fun _ => ?_) (fun c9 => absurd c9 (ha2.1))
        refine lv_iload hx hb dX13_turnRound_183 (lv_at hl 0 rfl) ?_
        refine lv_iconst (v := 1) hx hb dX13_turnRound_185 (by decide) ?_
        refine lv_icmp_ne (tgt := 269) hx hb dX13_turnRound_186 (by decide) (fun _ => ?_) (fun c9 => absurd c9 (ha2.2))
        refine lv_aload_n hx hb dX13_turnRound_269 rfl (lv_at hl 3 rfl) ?_
        refine va_get (D := (dC, dI)) (ci := 16) (v := .ref aG) (C := RX13) (T := TX13) (N := 120) hx hb hts (fun _ h => List.mem_cons_of_mem _ (List.mem_append_right _ h)) hown hK hP 0 rfl rfl 106 (by decide) (hts (.fieldLink RX13 359 "KnotHouseModel" "signed" "[I") (by decide +kernel)) (fun _ h9 => h9) hkaG dX13_turnRound_270 ?_
        refine lv_iload hx hb dX13_turnRound_273 (lv_at hl 9 rfl) ?_
        refine lv_iconst (v := 1) hx hb dX13_turnRound_275 (by decide) ?_
        refine lv_iadd hx hb dX13_turnRound_276 ?_
        refine ow_topi (y := nI (i + 1)) (nI_1 i) ?_
        refine lv_iconst (v := 0) hx hb dX13_turnRound_277 (by decide) ?_
        refine lv_iload hx hb dX13_turnRound_278 (lv_at hl 2 rfl) ?_
        refine lv_isub hx hb dX13_turnRound_280 ?_
        refine ow_topi (y := ow_sg (ow_dg w i)) (ow_sgK _ (ow_dg16 w i) g2) ?_
        refine ow_iastU (j := i + 1) hx hb hK hP hD hS 6 0 rfl rfl rfl (by omega) (by decide) dX13_turnRound_281 (fun f35 H locs ef35 nf35 hP hD hS => ?_)
        have hP : va_P (dC, dI) vwCl [(h0, .inr (16, fs)), (aZ, .inl (cI, 720, .inl fZ)), (aL, .inl (cI, 7200, .inl fL)), (aM, .inl (cI, 2880, .inl fM)), (aP, .inl (cI, 2880, .inl fP)), (aV, .inl (cI, 2880, .inl fV)), (aG, .inl (cI, 400, .inl f35))] H := hP
        have hD : va_D A [(h0, .inr (16, fs)), (aZ, .inl (cI, 720, .inl fZ)), (aL, .inl (cI, 7200, .inl fL)), (aM, .inl (cI, 2880, .inl fM)), (aP, .inl (cI, 2880, .inl fP)), (aV, .inl (cI, 2880, .inl fV)), (aG, .inl (cI, 400, .inl f35))] := hD
        refine lv_aload_n hx hb dX13_turnRound_282 rfl (lv_at hl 3 rfl) ?_
        refine va_get (D := (dC, dI)) (ci := 16) (v := .ref aG) (C := RX13) (T := TX13) (N := 120) hx hb hts (fun _ h => List.mem_cons_of_mem _ (List.mem_append_right _ h)) hown hK hP 0 rfl rfl 106 (by decide) (hts (.fieldLink RX13 359 "KnotHouseModel" "signed" "[I") (by decide +kernel)) (fun _ h9 => h9) hkaG dX13_turnRound_283 ?_
        refine lv_iload hx hb dX13_turnRound_286 (lv_at hl 9 rfl) ?_
        refine lv_iload hx hb dX13_turnRound_288 (lv_at hl 1 rfl) ?_
        refine ow_iastU (j := i) hx hb hK hP hD hS 6 0 rfl rfl rfl (by omega) (by decide) dX13_turnRound_290 (fun f36 H locs ef36 nf36 hP hD hS => ?_)
        have hP : va_P (dC, dI) vwCl [(h0, .inr (16, fs)), (aZ, .inl (cI, 720, .inl fZ)), (aL, .inl (cI, 7200, .inl fL)), (aM, .inl (cI, 2880, .inl fM)), (aP, .inl (cI, 2880, .inl fP)), (aV, .inl (cI, 2880, .inl fV)), (aG, .inl (cI, 400, .inl f36))] H := hP
        have hD : va_D A [(h0, .inr (16, fs)), (aZ, .inl (cI, 720, .inl fZ)), (aL, .inl (cI, 7200, .inl fL)), (aM, .inl (cI, 2880, .inl fM)), (aP, .inl (cI, 2880, .inl fP)), (aV, .inl (cI, 2880, .inl fV)), (aG, .inl (cI, 400, .inl f36))] := hD
        refine lv_iconst (v := 0) hx hb dX13_turnRound_291 (by decide) ?_
        refine ow_topi (y := nI 0) (by decide) ?_
        refine lv_istore (lv' := [(6, .int (nI 0)), (9, .int (if 0 ≤ nI (ow_dg w i - 8) - nI (ow_dg w (i + 1)) then nI (ow_dg w i - 8) - nI (ow_dg w (i + 1)) else 0 - (nI (ow_dg w i - 8) - nI (ow_dg w (i + 1))))), (8, .int (nI (ow_dg w (i + 1)))), (7, .int (nI (ow_dg w i - 8))), (0, .ref h0), (1, .int (nI n)), (2, .int (nI k)), (3, .int (nI j)), (4, .int (nI (120 * n + k))), (5, .int (nI sz))]) hx hb dX13_turnRound_292 hl (by decide) rfl (fun ls hl => ?_)
        refine lv_goto (tgt := 74) hx hb dX13_turnRound_294 (by decide) ?_
        exact ih_fu sz 0 _ g6 hsz (Nat.zero_le _) (ow_swp_ok hok g1) H locs ls _ hP hD hS (lv_sub hl [4, 5, 6, 7, 8, 9, 0] rfl) (ow_swpG g3 hG ef35 nf35 ef36 nf36)
  have L22 : ∀ (r q : Nat), q + r = z → ∀ (H : Heap) (locs : List Loc) (ls : Array Slot) (fG : Nat → Int32), va_P (dC, dI) vwCl [(h0, .inr (16, fs)), (aZ, .inl (cI, 720, .inl fZ)), (aL, .inl (cI, 7200, .inl fL)), (aM, .inl (cI, 2880, .inl fM)), (aP, .inl (cI, 2880, .inl fP)), (aV, .inl (cI, 2880, .inl fV)), (aG, .inl (cI, 400, .inl fG))] H → va_D A [(h0, .inr (16, fs)), (aZ, .inl (cI, 720, .inl fZ)), (aL, .inl (cI, 7200, .inl fL)), (aM, .inl (cI, 2880, .inl fM)), (aP, .inl (cI, 2880, .inl fP)), (aV, .inl (cI, 2880, .inl fV)), (aG, .inl (cI, 400, .inl fG))] → va_S A s.heap H locs → lv_has ls 11 [(0, .ref h0), (1, .int (nI n)), (2, .int (nI k)), (3, .int (nI j)), (4, .int (nI (120 * n + k))), (5, .int (nI q)), (6, .int (nI r - 1))] → (∀ t, t < q → fG t = ow_sg (ow_dg w0 t)) → W p l e ({ frames := 1, cells := 0, slots := 0, locals := 40 } : Room) s m ([.ref h0, .int (nI n), .int (nI k), .int (nI j)] : List Value).toArray below meth c H locs 0 0 QQ (F0 m 22 ls []) := by
    intro r
    induction r with
    | zero =>
      intro q hv_q H locs ls fG hP hD hS hl hG
      have hqz : q = z := by omega
      refine lv_iload hx hb dX13_turnRound_22 (lv_at hl 6 rfl) ?_
      refine lv_if_lt (tgt := 58) hx hb dX13_turnRound_24 (by decide) (fun _ => ?_) (fun c9 => absurd (by decide) c9)
      refine lv_aload_n hx hb dX13_turnRound_58 rfl (lv_at hl 0 rfl) ?_
      refine va_get (D := (dC, dI)) (ci := 16) (v := .ref aG) (C := RX13) (T := TX13) (N := 120) hx hb hts (fun _ h => List.mem_cons_of_mem _ (List.mem_append_right _ h)) hown hK hP 0 rfl rfl 106 (by decide) (hts (.fieldLink RX13 359 "KnotHouseModel" "signed" "[I") (by decide +kernel)) (fun _ h9 => h9) hkaG dX13_turnRound_59 ?_
      refine lv_iload hx hb dX13_turnRound_62 (lv_at hl 5 rfl) ?_
      refine lv_iconst (v := 1) hx hb dX13_turnRound_64 (by decide) ?_
      refine lv_iload_n hx hb dX13_turnRound_65 rfl (lv_at hl 3 rfl) ?_
      refine lv_iadd hx hb dX13_turnRound_66 ?_
      refine ow_topi (y := nI (1 + j)) (nI_add 1 j) ?_
      refine ow_iastU (j := q) hx hb hK hP hD hS 6 0 rfl rfl rfl (by omega) (by decide) dX13_turnRound_67 (fun f37 H locs ef37 nf37 hP hD hS => ?_)
      have hP : va_P (dC, dI) vwCl [(h0, .inr (16, fs)), (aZ, .inl (cI, 720, .inl fZ)), (aL, .inl (cI, 7200, .inl fL)), (aM, .inl (cI, 2880, .inl fM)), (aP, .inl (cI, 2880, .inl fP)), (aV, .inl (cI, 2880, .inl fV)), (aG, .inl (cI, 400, .inl f37))] H := hP
      have hD : va_D A [(h0, .inr (16, fs)), (aZ, .inl (cI, 720, .inl fZ)), (aL, .inl (cI, 7200, .inl fL)), (aM, .inl (cI, 2880, .inl fM)), (aP, .inl (cI, 2880, .inl fP)), (aV, .inl (cI, 2880, .inl fV)), (aG, .inl (cI, 400, .inl f37))] := hD
      refine lv_iinc (v := nI (q + 1)) (lv' := [(5, .int (nI (q + 1))), (0, .ref h0), (1, .int (nI n)), (2, .int (nI k)), (3, .int (nI j)), (4, .int (nI (120 * n + k))), (6, .int (nI 0 - 1))]) hx hb dX13_turnRound_68 hl (k := 5) rfl (nI_1 q) (by decide) rfl (fun ls hl => ?_)
      refine lv_iconst (v := 0) hx hb dX13_turnRound_71 (by decide) ?_
      refine ow_topi (y := nI 0) (by decide) ?_
      refine lv_istore (lv' := [(6, .int (nI 0)), (5, .int (nI (q + 1))), (0, .ref h0), (1, .int (nI n)), (2, .int (nI k)), (3, .int (nI j)), (4, .int (nI (120 * n + k)))]) hx hb dX13_turnRound_72 hl (by decide) rfl (fun ls hl => ?_)
      refine L74 128 (q + 1) 0 w0 (by rw [hqz]; exact hrv) (by omega) (Nat.zero_le _) (by rw [hqz]; exact hok0) H locs ls _ hP hD hS (lv_sub hl [2, 3, 4, 5, 6, 1, 0] rfl) ?_
      intro t9 h9
      rcases Nat.lt_or_ge t9 q with y9 | y9
      · rw [nf37 t9 (by omega)]
        exact hG t9 y9
      · have e9 : t9 = q := by omega
        rw [e9, ef37, hqz, hwz]
        exact (ow_sgJ _ (by omega)).symm
    | succ r ih_r =>
      intro q hv_q H locs ls fG hP hD hS hl hG
      rw [nI_pred] at hl
      refine lv_iload hx hb dX13_turnRound_22 (lv_at hl 6 rfl) ?_
      refine lv_if_lt (tgt := 58) hx hb dX13_turnRound_24 (by decide) (fun c9 => absurd c9 (Int32.not_lt.mpr (nI_le (a := 0) (b := r) (Nat.zero_le _) (by omega)))) (fun _ => ?_)
      refine lv_aload_n hx hb dX13_turnRound_27 rfl (lv_at hl 0 rfl) ?_
      refine va_get (D := (dC, dI)) (ci := 16) (v := .ref aG) (C := RX13) (T := TX13) (N := 120) hx hb hts (fun _ h => List.mem_cons_of_mem _ (List.mem_append_right _ h)) hown hK hP 0 rfl rfl 106 (by decide) (hts (.fieldLink RX13 359 "KnotHouseModel" "signed" "[I") (by decide +kernel)) (fun _ h9 => h9) hkaG dX13_turnRound_28 ?_
      refine lv_iload hx hb dX13_turnRound_31 (lv_at hl 5 rfl) ?_
      refine lv_iconst (v := (-1)) hx hb dX13_turnRound_33 (by decide) ?_
      refine lv_aload_n hx hb dX13_turnRound_34 rfl (lv_at hl 0 rfl) ?_
      refine va_get (D := (dC, dI)) (ci := 16) (v := .ref aL) (C := RX13) (T := TX13) (N := 120) hx hb hts (fun _ h => List.mem_cons_of_mem _ (List.mem_append_right _ h)) hown hK hP 0 rfl rfl 98 (by decide) (hts (.fieldLink RX13 335 "KnotHouseModel" "letters" "[I") (by decide +kernel)) (fun _ h9 => h9) hkaL dX13_turnRound_35 ?_
      refine lv_bipush (v := 10) hx hb dX13_turnRound_38 (by decide) ?_
      refine lv_iload hx hb dX13_turnRound_40 (lv_at hl 4 rfl) ?_
      refine lv_imul hx hb dX13_turnRound_42 ?_
      refine ow_topi (y := nI (10 * (120 * n + k))) (pk_mul 10 (120 * n + k)) ?_
      refine lv_iload hx hb dX13_turnRound_43 (lv_at hl 6 rfl) ?_
      refine lv_iadd hx hb dX13_turnRound_45 ?_
      refine ow_topi (y := nI (10 * (120 * n + k) + r)) (nI_add (10 * (120 * n + k)) r) ?_
      refine va_iald hx hb hK hP 2 0 rfl rfl (vp_in_nI (n := 10 * (120 * n + k) + r) (N := 7200) (by omega) (by decide)) dX13_turnRound_46 ?_
      refine ow_topi (y := nI (lr r)) ((congrArg fL (nI_clamp (n := 10 * (120 * n + k) + r) (by omega))).trans (hfL r (by omega))) ?_
      refine lv_isub hx hb dX13_turnRound_47 ?_
      refine ow_topi (y := ow_sg (9 + lr r)) (ow_m1 _ (by have h9 := hlt r; omega)) ?_
      refine ow_iastU (j := q) hx hb hK hP hD hS 6 0 rfl rfl rfl (by omega) (by decide) dX13_turnRound_48 (fun f39 H locs ef39 nf39 hP hD hS => ?_)
      have hP : va_P (dC, dI) vwCl [(h0, .inr (16, fs)), (aZ, .inl (cI, 720, .inl fZ)), (aL, .inl (cI, 7200, .inl fL)), (aM, .inl (cI, 2880, .inl fM)), (aP, .inl (cI, 2880, .inl fP)), (aV, .inl (cI, 2880, .inl fV)), (aG, .inl (cI, 400, .inl f39))] H := hP
      have hD : va_D A [(h0, .inr (16, fs)), (aZ, .inl (cI, 720, .inl fZ)), (aL, .inl (cI, 7200, .inl fL)), (aM, .inl (cI, 2880, .inl fM)), (aP, .inl (cI, 2880, .inl fP)), (aV, .inl (cI, 2880, .inl fV)), (aG, .inl (cI, 400, .inl f39))] := hD
      refine lv_iinc (v := nI (q + 1)) (lv' := [(5, .int (nI (q + 1))), (0, .ref h0), (1, .int (nI n)), (2, .int (nI k)), (3, .int (nI j)), (4, .int (nI (120 * n + k))), (6, .int (nI r))]) hx hb dX13_turnRound_49 hl (k := 5) rfl (nI_1 q) (by decide) rfl (fun ls hl => ?_)
      refine lv_iinc (v := nI r - 1) (lv' := [(6, .int (nI r - 1)), (5, .int (nI (q + 1))), (0, .ref h0), (1, .int (nI n)), (2, .int (nI k)), (3, .int (nI j)), (4, .int (nI (120 * n + k)))]) hx hb dX13_turnRound_52 hl (k := 6) rfl (Int32.sub_eq_add_neg (nI r) 1).symm (by decide) rfl (fun ls hl => ?_)
      refine lv_goto (tgt := 22) hx hb dX13_turnRound_55 (by decide) ?_
      refine ih_r (q + 1) (by omega) H locs ls _ hP hD hS (lv_sub hl [2, 3, 4, 5, 6, 1, 0] rfl) ?_
      intro t9 h9
      rcases Nat.lt_or_ge t9 q with y9 | y9
      · rw [nf39 t9 (by omega)]
        exact hG t9 y9
      · have e9 : t9 = q := by omega
        rw [e9, ef39, hw q (by omega), show z - 1 - q = r by omega]
  refine lv_bipush (v := 120) hx hb dX13_turnRound_0 (by decide) ?_
  refine lv_iload_n hx hb dX13_turnRound_2 rfl (lv_at hl 1 rfl) ?_
  refine lv_imul hx hb dX13_turnRound_3 ?_
  refine ow_topi (y := nI (120 * n)) (pk_mul 120 n) ?_
  refine lv_iload_n hx hb dX13_turnRound_4 rfl (lv_at hl 2 rfl) ?_
  refine lv_iadd hx hb dX13_turnRound_5 ?_
  refine ow_topi (y := nI (120 * n + k)) (nI_add (120 * n) k) ?_
  refine lv_istore (lv' := [(4, .int (nI (120 * n + k))), (0, .ref h0), (1, .int (nI n)), (2, .int (nI k)), (3, .int (nI j))]) hx hb dX13_turnRound_6 hl (by decide) rfl (fun ls hl => ?_)
  refine lv_iconst (v := 0) hx hb dX13_turnRound_8 (by decide) ?_
  refine ow_topi (y := nI 0) (by decide) ?_
  refine lv_istore (lv' := [(5, .int (nI 0)), (4, .int (nI (120 * n + k))), (0, .ref h0), (1, .int (nI n)), (2, .int (nI k)), (3, .int (nI j))]) hx hb dX13_turnRound_9 hl (by decide) rfl (fun ls hl => ?_)
  refine lv_aload_n hx hb dX13_turnRound_11 rfl (lv_at hl 2 rfl) ?_
  refine va_get (D := (dC, dI)) (ci := 16) (v := .ref aZ) (C := RX13) (T := TX13) (N := 120) hx hb hts (fun _ h => List.mem_cons_of_mem _ (List.mem_append_right _ h)) hown hK hP 0 rfl rfl 99 (by decide) (hts (.fieldLink RX13 338 "KnotHouseModel" "sizes" "[I") (by decide +kernel)) (fun _ h9 => h9) hkaZ dX13_turnRound_12 ?_
  refine lv_iload hx hb dX13_turnRound_15 (lv_at hl 1 rfl) ?_
  refine va_iald hx hb hK hP 1 0 rfl rfl (vp_in_nI (n := 120 * n + k) (N := 720) (by omega) (by decide)) dX13_turnRound_17 ?_
  refine ow_topi (y := nI z) ((congrArg fZ (nI_clamp (n := 120 * n + k) (by omega))).trans (hfZ)) ?_
  refine lv_iconst (v := 1) hx hb dX13_turnRound_18 (by decide) ?_
  refine lv_isub hx hb dX13_turnRound_19 ?_
  refine lv_istore (lv' := [(6, .int ((nI z) - 1)), (5, .int (nI 0)), (4, .int (nI (120 * n + k))), (0, .ref h0), (1, .int (nI n)), (2, .int (nI k)), (3, .int (nI j))]) hx hb dX13_turnRound_20 hl (by decide) rfl (fun ls hl => ?_)
  exact L22 z 0 (by omega) s.heap [] ls _ hP hD hS (lv_sub hl [3, 4, 5, 6, 2, 1, 0] rfl) (fun t9 h9 => absurd h9 (Nat.not_lt_zero t9))
