/-! two: the class's sum of circles, exactly -/
/-- the class's table -/
def twC (y : ow_MS) (n : pz9) : Prop := ∀ a b : Nat, a < 129 → b < 41 → y.2.1 24004 (a * 41 + b) = iI (n ((a : Int) - 64) ((b : Int) - 20))
theorem twC_fr {P : Nat → Prop} {z z1 : ow_MS} {n : pz9} (hf : fr P z z1) (hP : ¬ P 24004) (h : twC z n) : twC z1 n := fun a b ha hb => by
  rw [(hf 24004 hP).2.1]
  exact h a b ha hb
theorem twC_cg {z : ow_MS} {n n' : pz9} (h : twC z n) (e : ∀ p q, n p q = n' p q) : twC z n' := fun a b ha hb => by
  rw [← e]
  exact h a b ha hb
theorem i64_lt {a b : Int} (h1 : -5000000000 ≤ a) (h2 : a ≤ 5000000000) (h3 : -5000000000 ≤ b) (h4 : b ≤ 5000000000) : Int64.ofInt a < Int64.ofInt b ↔ a < b := by
  rw [Int64.lt_iff_toInt_lt, Int64.toInt_ofInt_of_le (by omega) (by omega), Int64.toInt_ofInt_of_le (by omega) (by omega)]
theorem lf_par9 : ∀ t : Fin 24, (nI t.val &&& 1) = 0 ↔ t.val % 2 = 0 := by decide +kernel
theorem ti_ix : ∀ (a : Fin 129) (b : Fin 41), (Int64.ofInt (a.val : Int) * 41 + Int64.ofInt (b.val : Int)).toInt32 = nI (a.val * 41 + b.val) := by decide +kernel
section XTWL
variable {vl : Nat → Nat} {y : ow_MS}
theorem xc_tIx {I J : Int} (h1 : -3000000000 ≤ I) (h2 : I ≤ 3000000000) (h3 : -3000000000 ≤ J) (h4 : J ≤ 3000000000) : Te (fun K => ce_X8_twoIndex vl K (Int64.ofInt I) (Int64.ofInt J) y) (fun r => r.2 = y ∧ ((∃ a b : Nat, a < 129 ∧ b < 41 ∧ I = (a : Int) - 64 ∧ J = (b : Int) - 20 ∧ r.1 = nI (a * 41 + b)) ∨ r.1 = -1 ∧ ¬ (-64 ≤ I ∧ I ≤ 64 ∧ -20 ≤ J ∧ J ≤ 20))) := by
  let Q : Int32 × ow_MS → Prop := fun r => r.2 = y ∧ ((∃ a b : Nat, a < 129 ∧ b < 41 ∧ I = (a : Int) - 64 ∧ J = (b : Int) - 20 ∧ r.1 = nI (a * 41 + b)) ∨ r.1 = -1 ∧ ¬ (-64 ≤ I ∧ I ≤ 64 ∧ -20 ≤ J ∧ J ≤ 20))
  have c1 : ¬ (-64 ≤ I ∧ I ≤ 64 ∧ -20 ≤ J ∧ J ≤ 20) → ∀ a b c d : Int64, Tt (fun K t => c_X8_twoIndex vl K t 1 a b c d y) Q := by
    intro hno a b c d
    refine u_X8_twoIndex_1 ?_; unfold cm_X8_twoIndex_1
    exact w_some ⟨rfl, Or.inr ⟨rfl, hno⟩⟩
  have e1 : Int64.ofInt I - (-64) = Int64.ofInt (I + 64) := by
    rw [show (-64 : Int64) = Int64.ofInt (-64) from rfl, ← Int64.ofInt_sub]
    congr 1
  have e2 : Int64.ofInt J - (-20) = Int64.ofInt (J + 20) := by
    rw [show (-20 : Int64) = Int64.ofInt (-20) from rfl, ← Int64.ofInt_sub]
    congr 1
  have l0 : ∀ x : Int, -4000000000 ≤ x → x ≤ 4000000000 → ∀ k : Int, -1000 ≤ k → k ≤ 1000 → (lg_cmp (Int64.ofInt x) (Int64.ofInt k) < 0 ↔ x < k) := fun x a1 a2 k b1 b2 => (lg_cmp_lt _ _).trans (i64_lt (by omega) (by omega) (by omega) (by omega))
  have g0 : ∀ x : Int, -4000000000 ≤ x → x ≤ 4000000000 → ∀ k : Int, -1000 ≤ k → k ≤ 1000 → (0 ≤ lg_cmp (Int64.ofInt x) (Int64.ofInt k) ↔ k ≤ x) := fun x a1 a2 k b1 b2 => by
    have h9 := l0 x a1 a2 k b1 b2
    constructor
    · intro h
      by_cases c : x < k
      · have := h9.mpr c
        exact absurd this (Int32.not_lt.mpr h)
      · omega
    · intro h
      refine Int32.not_lt.mp (fun h8 => ?_)
      have := h9.mp h8
      omega
  refine e_X8_twoIndex ?_
  refine u_X8_twoIndex_0 ?_; unfold cm_X8_twoIndex_0
  rw [e1, e2]
  have i1 := l0 (I + 64) (by omega) (by omega) 0 (by omega) (by omega)
  have i2 := g0 (I + 64) (by omega) (by omega) 129 (by omega) (by omega)
  have i3 := l0 (J + 20) (by omega) (by omega) 0 (by omega) (by omega)
  have i4 := l0 (J + 20) (by omega) (by omega) 41 (by omega) (by omega)
  refine w_if (fun a1 => c1 (by have := i1.mp a1; omega) _ _ _ _) (fun a1 => w_if (fun a2 => c1 (by have := i2.mp a2; omega) _ _ _ _) (fun a2 => w_if (fun a3 => c1 (by have := i3.mp a3; omega) _ _ _ _) (fun a3 => w_if (fun a4 => ?_) (fun a4 => c1 (by have h9 : ¬ (J + 20 < 41) := fun h9 => a4 (i4.mpr h9); omega) _ _ _ _))))
  have b1 : ¬ (I + 64 < 0) := fun h9 => a1 (i1.mpr h9)
  have b2 : ¬ (129 ≤ I + 64) := fun h9 => a2 (i2.mpr h9)
  have b3 : ¬ (J + 20 < 0) := fun h9 => a3 (i3.mpr h9)
  have b4 := i4.mp a4
  obtain ⟨a, ea⟩ : ∃ a : Nat, I + 64 = (a : Int) := ⟨(I + 64).toNat, by omega⟩
  obtain ⟨b, eb⟩ : ∃ b : Nat, J + 20 = (b : Int) := ⟨(J + 20).toNat, by omega⟩
  refine w_some ⟨rfl, Or.inl ⟨a, b, by omega, by omega, by omega, by omega, ?_⟩⟩
  show (Int64.ofInt (I + 64) * 41 + Int64.ofInt (J + 20)).toInt32 = nI (a * 41 + b)
  rw [ea, eb]
  exact ti_ix ⟨a, by omega⟩ ⟨b, by omega⟩
theorem xc_addT {q L : Nat} {φ pw : Int} {n : pz9} (hq1 : 1 ≤ q) (hq : q ≤ 20) (hz : L ≤ 12) (hp1 : -5000 ≤ pw) (hp2 : pw ≤ 5000) (hb : bnC y) (hn : twC y n) : Te (fun K => ce_X8_addCircles vl K 24000 (nI q) (iI φ) (iI pw) (nI L) y) (fun y1 => twC y1 (fun p r => n p r + φ * lfz (q - 1) (p - pw) (r - (L : Int)))) := by
  let Q : ow_MS → Prop := fun y1 => twC y1 (fun p r => n p r + φ * lfz (q - 1) (p - pw) (r - (L : Int)))
  have e5 : nI q - 1 = nI (q - 1) := pk_sub (b := 1) hq1
  have c2 : ∀ (d j : Nat) (y1 : ow_MS), j + d = q → bnC y1 → twC y1 (fun p r => n p r + φ * tmz (q - 1) j (p - pw) (r - (L : Int))) → Tt (fun K t => c_X8_addCircles vl K t 2 (nI q) (iI φ) (iI pw) (nI L) (nI (q - 1)) (nI j) 0 24000 0 0 0 0 y1) Q := by
    intro d
    induction d with
    | zero =>
      intro j y1 hj hb1 h1
      refine u_X8_addCircles_2 ?_; unfold cm_X8_addCircles_2
      refine w_ltT (by omega) (by omega) (w_some (twC_cg h1 (fun p r => ?_)))
      rw [show j = (q - 1) + 1 by omega, tmz_l]
    | succ d ih =>
      intro j y1 hj hb1 h1
      have c4 : ∀ (x7 : Int32) (y2 : ow_MS), bnC y2 → twC y2 (fun p r => n p r + φ * tmz (q - 1) (j + 1) (p - pw) (r - (L : Int))) → Tt (fun K t => c_X8_addCircles vl K t 4 (nI q) (iI φ) (iI pw) (nI L) (nI (q - 1)) (nI j) x7 24000 0 0 0 0 y2) Q := by
        intro x7 y2 hb2 h2
        refine u_X8_addCircles_4 ?_; unfold cm_X8_addCircles_4
        rw [nI_1]
        exact ih (j + 1) y2 (by omega) hb2 h2
      have eI : ((iI pw).toInt64 - (nI (q - 1)).toInt64) + ((2 * nI j).toInt64) = Int64.ofInt (pw - ((q - 1 : Nat) : Int) + 2 * (j : Int)) := by
        rw [rn_mul2, nI_iI (q - 1), nI_iI (2 * j)]
        unfold iI
        rw [Int32.toInt64_ofInt (by show (-2147483648 : Int) ≤ _; omega) (by show _ ≤ (2147483647 : Int); omega), Int32.toInt64_ofInt (by show (-2147483648 : Int) ≤ _; omega) (by show _ ≤ (2147483647 : Int); omega), Int32.toInt64_ofInt (by show (-2147483648 : Int) ≤ _; omega) (by show _ ≤ (2147483647 : Int); omega), ← Int64.ofInt_sub, ← Int64.ofInt_add]
        congr 1
      have eJ : (nI L).toInt64 - (nI (q - 1)).toInt64 = Int64.ofInt ((L : Int) - ((q - 1 : Nat) : Int)) := by
        rw [nI_iI L, nI_iI (q - 1)]
        unfold iI
        rw [Int32.toInt64_ofInt (by show (-2147483648 : Int) ≤ _; omega) (by show _ ≤ (2147483647 : Int); omega), Int32.toInt64_ofInt (by show (-2147483648 : Int) ≤ _; omega) (by show _ ≤ (2147483647 : Int); omega), ← Int64.ofInt_sub]
      refine u_X8_addCircles_2 ?_; unfold cm_X8_addCircles_2
      rw [eI, eJ]
      refine w_ltF (by omega) (by omega) (w_leF (a := 24) (by omega) (by omega) (w_cs1 (xc_tIx (by omega) (by omega) (by omega) (by omega)) ?_))
      rintro v y2 ⟨e2, h2⟩
      dsimp only at h2 e2
      rw [e2]
      rcases h2 with ⟨a, b, ha, hb9, eIa, eJb, rfl⟩ | ⟨rfl, hno⟩
      · have hk : a * 41 + b < 5289 := by omega
        have par := lf_par9 ⟨j, by omega⟩
        dsimp only at par
        have hlt : j ≤ q - 1 := by omega
        have bn := hb1 (q - 1) j (by omega) hlt
        have rd := h1 a b ha hb9
        have c3 : ∀ (s : Int) (t0 : Int32), t0 = iI s → s = sgt9 j → Tt (fun K t => c_X8_addCircles vl K t 3 (nI q) (iI φ) (iI pw) (nI L) (nI (q - 1)) (nI j) (nI (a * 41 + b)) 24000 t0 (iI φ * nI (binN (q - 1) j)) (iI (n ((a : Int) - 64) ((b : Int) - 20) + φ * tmz (q - 1) j ((a : Int) - 64 - pw) ((b : Int) - 20 - (L : Int)))) (nI (a * 41 + b)) y1) Q := by
          intro s t0 ht hs
          refine u_X8_addCircles_3 ?_; unfold cm_X8_addCircles_3
          rw [ht, hs, nI_iI (binN (q - 1) j), iI_mul, iI_mul, iI_add]
          refine w_ctI ch_24004 rfl hk (c4 _ _ (bnC_fr (P := fun g => g = 24004) (fr_I rfl) (fun m hm => by omega) hb1) (fun a2 b2 k1 k2 => ?_))
          show _ = iI (n ((a2 : Int) - 64) ((b2 : Int) - 20) + φ * (tmz (q - 1) j ((a2 : Int) - 64 - pw) ((b2 : Int) - 20 - (L : Int)) + (if (a2 : Int) - 64 - pw = 2 * (j : Int) - ((q - 1 : Nat) : Int) ∧ (b2 : Int) - 20 - (L : Int) = -((q - 1 : Nat) : Int) then sgt9 j * (binN (q - 1) j : Int) else 0)))
          by_cases cs : a2 = a ∧ b2 = b
          · rw [cs.1, cs.2, if_pos ⟨by omega, by omega⟩]
            refine po_usI_at.trans ?_
            congr 1
            rw [Int.mul_add, Int.mul_comm (sgt9 j), Int.mul_assoc, Int.add_assoc]
          · rw [if_neg (fun h => cs ⟨by omega, by omega⟩), Int.add_zero]
            exact rd_ne (show a2 * 41 + b2 ≠ a * 41 + b by omega) (h1 a2 b2 k1 k2)
        refine w_ifF (rn_neg1 (by omega)) (w_crI ch_24004 rfl hk rd (w_crX rfl (show q - 1 < 24 by omega) (w_crI (ch_choose (show q - 1 < 24 by omega)) rfl (show j < 24 by omega) bn (w_if (fun h9 => ?_) (fun h9 => ?_)))))
        · exact c3 1 1 rfl (if_pos (par.mp h9)).symm
        · exact c3 (-1) (-1) rfl (if_neg (fun h8 => h9 (par.mpr h8))).symm
      · refine w_ifT rfl (c4 _ _ hb1 (fun a2 b2 k1 k2 => ?_))
        show _ = iI (n ((a2 : Int) - 64) ((b2 : Int) - 20) + φ * (tmz (q - 1) j ((a2 : Int) - 64 - pw) ((b2 : Int) - 20 - (L : Int)) + (if (a2 : Int) - 64 - pw = 2 * (j : Int) - ((q - 1 : Nat) : Int) ∧ (b2 : Int) - 20 - (L : Int) = -((q - 1 : Nat) : Int) then sgt9 j * (binN (q - 1) j : Int) else 0)))
        rw [if_neg (fun h => hno ⟨by omega, by omega, by omega, by omega⟩), Int.add_zero]
        exact h1 a2 b2 k1 k2
  have c1 : ∀ (y1 : ow_MS), bnC y1 → twC y1 n → Tt (fun K t => c_X8_addCircles vl K t 1 (nI q) (iI φ) (iI pw) (nI L) (nI (q - 1)) 0 0 24000 0 0 0 0 y1) Q := by
    intro y1 hb1 h1
    refine u_X8_addCircles_1 ?_; unfold cm_X8_addCircles_1
    exact c2 q 0 y1 (by omega) hb1 (twC_cg h1 (fun p r => by show _ = n p r + φ * 0; rw [Int.mul_zero, Int.add_zero]))
  refine e_X8_addCircles ?_
  refine u_X8_addCircles_0 ?_; unfold cm_X8_addCircles_0
  rw [show uw_len (cX vl) y (24000 + 3) = 13 from rfl, e5]
  refine w_if (fun h0 => ?_) (fun h0 => c1 y hb hn)
  exact w_leF (a := 13) (by omega) (by omega) (w_crI ch_24003 rfl (show L < 13 by omega) rfl (w_ctI ch_24003 rfl (show L < 13 by omega) (c1 _ (bnC_fr (P := fun g => g = 24003) (fr_I rfl) (fun m hm => by omega) hb) (twC_fr (P := fun g => g = 24003) (fr_I rfl) (by decide) hn))))
end XTWL
