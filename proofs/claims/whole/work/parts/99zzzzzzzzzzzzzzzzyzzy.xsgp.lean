/-! signature, the reference: signs of longs, changes of sign -/
def sn32 (a : Int) : Int32 := if a = 0 then 0 else if 0 < a then 1 else -1
/-- changes of sign and the last number, read from place 0 on -/
def wu9 (d : Nat → Int) : Nat → Nat × Int
  | 0 => (0, 0)
  | n + 1 => if d n = 0 then wu9 d n else ((wu9 d n).1 + (if opp9 (wu9 d n).2 (d n) then 1 else 0), d n)
section XSGP
theorem sgJ9 {a : Int} (h : rI9 a) : ow_sgnJ (Int64.ofInt a) = sn32 a := by
  have ht := rI_t h
  generalize Int64.ofInt a = x at ht
  have e : ow_sgnJ x = Int32.ofBitVec (((x.toBitVec.sshiftRight 63) ||| ((-x.toBitVec) >>> 63)).signExtend 32) := rfl
  rw [e]
  have hN := x.toBitVec.isLt
  have hc : x.toBitVec.toInt = a := ht
  rw [BitVec.toInt_eq_toNat_cond] at hc
  by_cases hm : 2 * x.toBitVec.toNat < 2 ^ 64
  · rw [if_pos hm] at hc
    have m1 : x.toBitVec.msb = false := BitVec.msb_eq_false_iff_two_mul_lt.mpr hm
    have s1 : x.toBitVec.sshiftRight 63 = 0#64 := by
      rw [BitVec.sshiftRight_eq_of_msb_false m1]
      refine BitVec.eq_of_toNat_eq ?_
      rw [BitVec.toNat_ushiftRight, Nat.shiftRight_eq_div_pow]
      exact Nat.div_eq_of_lt (by omega)
    rw [s1, BitVec.zero_or]
    by_cases h0 : x.toBitVec.toNat = 0
    · have z0 : x.toBitVec = 0#64 := BitVec.eq_of_toNat_eq h0
      rw [z0, show a = 0 by omega]
      decide
    · have s2 : (-x.toBitVec) >>> 63 = 1#64 := by
        refine BitVec.eq_of_toNat_eq ?_
        rw [BitVec.toNat_ushiftRight, Nat.shiftRight_eq_div_pow, BitVec.toNat_neg, Nat.mod_eq_of_lt (by omega)]
        show (2 ^ 64 - x.toBitVec.toNat) / 2 ^ 63 = 1
        omega
      rw [s2]
      unfold sn32
      rw [if_neg (by omega), if_pos (by omega)]
      decide
  · rw [if_neg hm] at hc
    have m1 : x.toBitVec.msb = true := BitVec.msb_eq_true_iff_two_mul_ge.mpr (by omega)
    have s1 : x.toBitVec.sshiftRight 63 = BitVec.allOnes 64 := by
      rw [BitVec.sshiftRight_eq_of_msb_true m1]
      have s0 : (~~~x.toBitVec) >>> 63 = 0#64 := by
        refine BitVec.eq_of_toNat_eq ?_
        rw [BitVec.toNat_ushiftRight, Nat.shiftRight_eq_div_pow, BitVec.toNat_not]
        exact Nat.div_eq_of_lt (by omega)
      rw [s0]
      decide
    rw [s1, BitVec.allOnes_or]
    unfold sn32
    rw [if_neg (by omega), if_neg (by omega)]
    decide
theorem wu_wv (d : Nat → Int) : ∀ n, wu9 d (n + 1) = wv9 d n := by
  intro n
  induction n with
  | zero =>
    show (if d 0 = 0 then (0, 0) else (0 + (if opp9 0 (d 0) then 1 else 0), d 0)) = (0, d 0)
    by_cases h : d 0 = 0
    · rw [if_pos h, h]
    · rw [if_neg h, if_neg (by unfold opp9; omega)]
  | succ n ih =>
    show (if d (n + 1) = 0 then wu9 d (n + 1) else ((wu9 d (n + 1)).1 + (if opp9 (wu9 d (n + 1)).2 (d (n + 1)) then 1 else 0), d (n + 1))) = _
    rw [ih]
    rfl
theorem sn_z {a : Int} : sn32 a = 0 ↔ a = 0 := by
  unfold sn32
  by_cases h : a = 0
  · rw [if_pos h]
    exact ⟨fun _ => h, fun _ => rfl⟩
  · rw [if_neg h]
    refine ⟨fun h9 => ?_, fun h9 => absurd h9 h⟩
    split at h9
    · exact absurd h9 (by decide)
    · exact absurd h9 (by decide)
theorem sn_op {a b : Int} (ha : a ≠ 0) (hb : b ≠ 0) : sn32 b = sn32 a ↔ ¬ opp9 a b := by
  unfold sn32 opp9
  rw [if_neg ha, if_neg hb]
  by_cases h1 : 0 < a <;> by_cases h2 : 0 < b
  · rw [if_pos h1, if_pos h2]
    exact ⟨fun _ => by omega, fun _ => rfl⟩
  · rw [if_pos h1, if_neg h2]
    exact ⟨fun h9 => absurd h9 (by decide), fun h9 => by omega⟩
  · rw [if_neg h1, if_pos h2]
    exact ⟨fun h9 => absurd h9 (by decide), fun h9 => by omega⟩
  · rw [if_neg h1, if_neg h2]
    exact ⟨fun _ => by omega, fun _ => rfl⟩
theorem sn_neg {a : Int} : 0 - sn32 a = sn32 (-a) := by
  unfold sn32
  by_cases h : a = 0
  · rw [if_pos h, if_pos (by omega)]
    rfl
  · rw [if_neg h, if_neg (show ¬ -a = 0 by omega)]
    by_cases h1 : 0 < a
    · rw [if_pos h1, if_neg (show ¬ 0 < -a by omega)]
      rfl
    · rw [if_neg h1, if_pos (show 0 < -a by omega)]
      rfl
variable {z : ow_MS}
theorem xr_changes {n : Nat} {b : Int32} {d : Nat → Int} (hn : n ≤ 14) (hb : b = 0 ∨ b = 1) (hd : ∀ k, k ≤ n → z.2.2 57 k = Int64.ofInt (d (n - k)) ∧ rI9 (d (n - k))) : Te (fun K => qe_X13_changes K (nI n) b z) (fun r => r.1 = nI (wv9 (fun j => if b = 1 ∧ (n - j) % 2 = 1 then -d j else d j) n).1 ∧ r.2 = z) := by
  generalize hD : (fun j => if b = 1 ∧ (n - j) % 2 = 1 then -d j else d j) = D
  have hDj : ∀ j, D j = if b = 1 ∧ (n - j) % 2 = 1 then -d j else d j := fun j => by rw [← hD]
  have c1 : ∀ (e : Nat), e ≤ n + 1 → Tt (fun K k => q_X13_changes K k 1 (nI n) b (nI (wu9 D (n + 1 - e)).1) (sn32 (wu9 D (n + 1 - e)).2) (iI ((e : Int) - 1)) 0 0 0 z) (fun r => r.1 = nI (wv9 D n).1 ∧ r.2 = z) := by
    intro e
    induction e with
    | zero =>
      intro _
      refine u_X13_changes_1 ?_; unfold qm_X13_changes_1
      refine w_ifT (by show iI (-1) < iI 0; rw [iI_lt (by omega) (by omega) (by omega) (by omega)]; omega) (w_some ⟨?_, rfl⟩)
      rw [show n + 1 - 0 = n + 1 by omega, wu_wv]
    | succ e ih =>
      intro he
      have ih := ih (by omega)
      have e1 : iI (((e + 1 : Nat) : Int) - 1) = nI e := iI_nI (by omega)
      have e2 : nI e + (-1) = iI ((e : Int) - 1) := by
        rw [nI_iI]
        show iI (e : Int) + iI (-1) = _
        rw [iI_add]
        rfl
      rw [e1]
      generalize hj : n + 1 - (e + 1) = j
      have hj2 : n + 1 - e = j + 1 := by omega
      rw [hj2] at ih
      obtain ⟨hv, hr⟩ := hd e (by omega)
      rw [show n - e = j by omega] at hv hr
      have hne : (n - j) % 2 = e % 2 := by rw [show n - j = e by omega]
      have wn : wu9 D (j + 1) = if D j = 0 then wu9 D j else ((wu9 D j).1 + (if opp9 (wu9 D j).2 (D j) then 1 else 0), D j) := rfl
      have c5 : ∀ (x3 x4 x6 : Int32), x3 = nI (wu9 D (j + 1)).1 → x4 = sn32 (wu9 D (j + 1)).2 → Tt (fun K k => q_X13_changes K k 5 (nI n) b x3 x4 (nI e) x6 0 0 z) (fun r => r.1 = nI (wv9 D n).1 ∧ r.2 = z) := by
        intro x3 x4 x6 h3 h4
        rw [h3, h4]
        refine u_X13_changes_5 ?_; unfold qm_X13_changes_5
        rw [e2]
        exact ih
      have c4 : ∀ (x3 x4 t0 t1 : Int32), t1 + t0 = nI (wu9 D (j + 1)).1 → sn32 (D j) = sn32 (wu9 D (j + 1)).2 → Tt (fun K k => q_X13_changes K k 4 (nI n) b x3 x4 (nI e) (sn32 (D j)) t0 t1 z) (fun r => r.1 = nI (wv9 D n).1 ∧ r.2 = z) := by
        intro x3 x4 t0 t1 h1 h2
        refine u_X13_changes_4 ?_; unfold qm_X13_changes_4
        exact c5 _ _ _ h1 h2
      have c2 : Tt (fun K k => q_X13_changes K k 2 (nI n) b (nI (wu9 D j).1) (sn32 (wu9 D j).2) (nI e) (sn32 (D j)) 0 0 z) (fun r => r.1 = nI (wv9 D n).1 ∧ r.2 = z) := by
        refine u_X13_changes_2 ?_; unfold qm_X13_changes_2
        refine w_if (fun h0 => ?_) (fun h0 => ?_)
        · rw [sn_z] at h0
          rw [if_pos h0] at wn
          exact c5 _ _ _ (by rw [wn]) (by rw [wn])
        · rw [sn_z] at h0
          rw [if_neg h0] at wn
          have same : ∀ x3 x4 : Int32, ¬ opp9 (wu9 D j).2 (D j) → Tt (fun K k => q_X13_changes K k 3 (nI n) b x3 x4 (nI e) (sn32 (D j)) (nI (wu9 D j).1) 0 z) (fun r => r.1 = nI (wv9 D n).1 ∧ r.2 = z) := by
            intro x3 x4 hno
            refine u_X13_changes_3 ?_; unfold qm_X13_changes_3
            refine c4 _ _ _ _ ?_ (by rw [wn])
            rw [wn, if_neg hno]
            exact Int32.add_zero _
          refine w_if (fun h1 => ?_) (fun h1 => w_if (fun h2 => ?_) (fun h2 => ?_))
          · rw [sn_z] at h1
            exact same _ _ (by rw [h1]; unfold opp9; omega)
          · rw [sn_z] at h1
            exact same _ _ ((sn_op h1 h0).mp h2)
          · rw [sn_z] at h1
            refine c4 _ _ _ _ ?_ (by rw [wn])
            have ho : opp9 (wu9 D j).2 (D j) := by
              by_cases h9 : opp9 (wu9 D j).2 (D j)
              · exact h9
              · exact absurd ((sn_op h1 h0).mpr h9) h2
            rw [wn, if_pos ho]
            exact nI_1 _
      have an : nI e &&& 1 = 1 ↔ e % 2 = 1 := by
        have key : ∀ i : Fin 16, (nI i.val &&& 1 = 1 ↔ i.val % 2 = 1) := by decide +kernel
        exact key ⟨e, by omega⟩
      have sv : ow_sgnJ (Int64.ofInt (d j)) = sn32 (d j) := sgJ9 hr
      refine u_X13_changes_1 ?_; unfold qm_X13_changes_1
      refine w_ifF (fun h9 => absurd h9 (nI_pos (by omega))) (w_rdJ ml57 rfl (by omega) hv (w_if (fun h1 => ?_) (fun h1 => w_if (fun h2 => ?_) (fun h2 => ?_))))
      · have : D j = d j := by rw [hDj, if_neg (fun h9 => by rw [h9.1] at h1; exact absurd h1 (by decide))]
        rw [sv, ← this]
        exact c2
      · have hb1 : b = 1 := by
          rcases hb with h9 | h9
          · exact absurd h9 h1
          · exact h9
        have : D j = -d j := by rw [hDj, if_pos ⟨hb1, by rw [hne]; exact an.mp h2⟩]
        rw [sv, sn_neg, ← this]
        exact c2
      · have : D j = d j := by rw [hDj, if_neg (fun h9 => h2 (an.mpr (by rw [← hne]; exact h9.2)))]
        rw [sv, ← this]
        exact c2
  refine e_X13_changes ?_
  refine u_X13_changes_0 ?_; unfold qm_X13_changes_0
  have := c1 (n + 1) (Nat.le_refl _)
  rw [show iI (((n + 1 : Nat) : Int) - 1) = nI n from iI_nI (by omega), Nat.sub_self] at this
  exact this
end XSGP
