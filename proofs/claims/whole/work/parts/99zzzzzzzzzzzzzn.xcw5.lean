/-! conway: the class's unfold, exactly -/
theorem shf_d {L t : Nat} {V : Nat → Int} (h : ∀ k, V k = if k = 0 then 1 else 0) : shf L V t = if t = L then 1 else 0 := by
  unfold shf
  by_cases e : L ≤ t
  · rw [if_pos e, h]
    by_cases e2 : t = L
    · rw [if_pos e2, if_pos (by omega)]
    · rw [if_neg e2, if_neg (by omega)]
  · rw [if_neg e, if_neg (by omega)]
theorem shf_0 {L t : Nat} {V : Nat → Int} (h : ∀ k, V k = 0) : shf L V t = 0 := by
  unfold shf
  by_cases e : L ≤ t
  · rw [if_pos e, h]
  · rw [if_neg e]
theorem shf_st {L t : Nat} {φ s : Int} {V V1 V2 : Nat → Int} (h : ∀ k, V k = s * (if k = 0 then 0 else V1 (k - 1)) + V2 k) (m : Int) : m + (φ * s) * shf (L + 1) V1 t + φ * shf L V2 t = m + φ * shf L V t := by
  unfold shf
  by_cases e2 : L ≤ t
  · rw [if_pos e2, if_pos e2, h]
    by_cases e3 : L + 1 ≤ t
    · rw [if_pos e3, if_neg (show ¬ t - L = 0 by omega), show t - (L + 1) = t - L - 1 by omega, Int.mul_add, Int.mul_assoc, Int.add_assoc]
    · rw [if_neg e3, if_pos (show t - L = 0 by omega), Int.mul_zero, Int.mul_zero, Int.add_zero, Int.zero_add]
  · rw [if_neg e2, if_neg e2, if_neg (by omega), Int.mul_zero, Int.mul_zero, Int.add_zero, Int.add_zero]
section XCD
variable {vl : Nat → Nat} {y : ow_MS} {xp : Int32}
/-- the state of the net at hand: what it shows, and what is still to come -/
def ufJ (L c : Nat) (f : Nat → Nat) (φ : Int) (W : Nat → Int) (n1 b1 : Nat) (z : ow_MS) (R : ow_NT) (B : rn_L) (sb : Nat → Bool) : Prop := lvS z ∧ cAt z (lv L) R ∧ nvL L R ∧ R.1 = c ∧ uL B sb f R ∧ B.length = n1 ∧ rn_b B 1 = b1 ∧ ∃ m, cwC z m ∧ ∀ t, t < 13 → m t + φ * shf L (skV 13 B sb) t = W t
/-- the same, where the crossing x is still to be changed -/
def ufK (L c : Nat) (f : Nat → Nat) (φ : Int) (W : Nat → Int) (n1 b1 x : Nat) (z : ow_MS) (R : ow_NT) (B : rn_L) (sb : Nat → Bool) : Prop := lvS z ∧ cAt z (lv L) R ∧ nvL L R ∧ R.1 = c ∧ uL B sb f R ∧ B.length = n1 ∧ rn_b B 1 = b1 ∧ ∃ m, cwC z m ∧ ∀ t, t < 13 → m t + φ * shf L (skV 13 (chA B x) (chS sb x)) t = W t
def ufS (vl : Nat → Nat) (L dd : Nat) : Prop := ∀ (R : ow_NT) (B : rn_L) (sb : Nat → Bool) (g : Nat → Nat) (ψ : Int) (m : Nat → Int) (xp : Int32) (z : ow_MS), lvS z → cAt z (lv (L + 1)) R → nvL (L + 1) R → R.1 + (L + 1) ≤ 12 → uL B sb g R → cwC z m → Te (fun K => cd0_X8_unfold vl K dd 24000 (nI (L + 1)) (iI ψ) xp (nI (L + 1)) z) (fun z1 => (lvS z1 ∧ fr (unP (L + 1)) z z1) ∧ cwC z1 (fun t => m t + ψ * shf (L + 1) (skV 13 B sb) t))
/-- a bad visit: the crossing smoothed a level below, then changed here -/
theorem uf_bad {O : Type} {Qo : O → Prop} {L dd c v x a b n1 b1 : Nat} {f : Nat → Nat} {φ : Int} {W : Nat → Int} {z : ow_MS} {R : ow_NT} {B : rn_L} {sb : Nat → Bool} {pw : Int32} {E : ow_MS → Nat → Nat → Option O} (hL : L < 12) (hself : ufS vl L dd) (hJ : ufJ L c f φ W n1 b1 z R B sb) (hc : c + L ≤ 12) (hv : v < B.flatten.length) (ex : crs B v = x) (hs : sm2 B x a b) (h0 : crs B 0 ≠ x) (hV : ∀ k, skV 13 B sb k = (if sb x then -1 else 1) * (if k = 0 then 0 else skV 13 (smV B a b) sb (k - 1)) + skV 13 (chA B x) (chS sb x) k) (H : ∀ z3, ufK L c f φ W n1 b1 x z3 R B sb → Tt (E z3) Qo) : Tt (fun K k => crX 13 (nI (L + 1)) fun j6 => cs0 (ce_X7_copy vl K (24000 + 2000 + 1000 * j6) (lv L) z) fun z7 => crX 13 (nI (L + 1)) fun j8 => cs0 (ce_X7_smoothCrossing vl K (24000 + 2000 + 1000 * j8) (nI (f x)) z7) fun z9 => cs0 (cd0_X8_unfold vl K dd 24000 (nI (L + 1)) (iI φ * iI (if sb x then -1 else 1)) pw (nI (L + 1)) z9) fun z10 => E z10 K k) Qo := by
  obtain ⟨j1, j2, j3, j4, j5, j6, j7, m, j8, j9⟩ := hJ
  have hN := uL_N j5
  have hx : f x < R.1 := by
    rw [← ex]
    exact hN.2.2.2.1 v hv
  have hh := lv_nH (show L ≤ 12 by omega)
  have hh1 := lv_nH (show L + 1 ≤ 12 by omega)
  obtain ⟨T', t1, t2⟩ := j1 (L + 1) (by omega)
  refine w_crX rfl (show L + 1 < 13 by omega) (w_cs0 (tc_copy hh1 hh (by unfold nDj lv; omega) t1 j2 j3.2.1) ?_)
  rintro z1 ⟨g1, g2⟩
  refine w_crX rfl (show L + 1 < 13 by omega) (w_cs0 (tc_smoothCrossing hh1 g1 (nt_copy_b24 t2 j3.2.2.1) (show f x < R.1 by omega) j3.2.1) ?_)
  rintro z2 ⟨g3, g4⟩
  have n2 := nvL_sm (Q := T') (x := f x) j3 t2 hx
  have f2 : fr (cP (lv (L + 1))) z z2 := fr_tr g2 g4
  have l2 : lvS z2 := lvS_fr (L := L + 1) f2 (fun g hg => Or.inl (cP_in hg)) ⟨_, g3, n2.2.2.1⟩ j1
  obtain ⟨f', hu'⟩ := uL_sm (Q := T') j5 hs h0
  have c2 : cwC z2 m := cwC_fr f2 (fun h9 => by unfold cP lv at h9; omega) j8
  rw [iI_mul]
  refine w_cs0 (hself _ _ _ _ _ m _ z2 l2 g3 n2 (show R.1 - 1 + (L + 1) ≤ 12 by omega) hu' c2) ?_
  rintro z3 ⟨⟨l3, f3⟩, c3⟩
  have f23 : fr (unP (L + 1)) z z3 := fr_tr (fr_mono (fun g hg => by unfold cP lv at hg; unfold unP; omega) f2) f3
  have hR3 : cAt z3 (lv L) R := cAt_fr f23 (fun g hg h9 => by unfold cP lv at hg; unfold unP at h9; omega) j2
  refine H z3 ⟨l3, hR3, j3, j4, j5, j6, j7, _, c3, fun t ht => ?_⟩
  rw [← j9 t ht]
  exact shf_st hV (m t)
theorem uf_flip {O : Type} {Qo : O → Prop} {L c v x n1 b1 : Nat} {f : Nat → Nat} {φ : Int} {W : Nat → Int} {z : ow_MS} {R : ow_NT} {B : rn_L} {sb : Nat → Bool} {E : ow_MS → Nat → Nat → Option O} (hL : L ≤ 12) (hJ : ufK L c f φ W n1 b1 x z R B sb) (hv : v < B.flatten.length) (ex : crs B v = x) (h0 : crs B 0 ≠ x) (H : ∀ z3, ufJ L c f φ W n1 b1 z3 (ntF R (f x)) (chA B x) (chS sb x) → Tt (E z3) Qo) : Tt (fun K k => cs0 (ce_X7_flipCrossing vl K (lv L) (nI (f x)) z) fun z11 => E z11 K k) Qo := by
  obtain ⟨j1, j2, j3, j4, j5, j6, j7, m, j8, j9⟩ := hJ
  have hx : f x < R.1 := by
    rw [← ex]
    exact (uL_N j5).2.2.2.1 v hv
  refine w_cs0 (tc_flipCrossing (lv_nH hL) j2 j3.2.2.1 (show f x < 12 by have := j3.2.1; omega)) ?_
  rintro z4 ⟨g5, g6⟩
  have n4 := nvL_flip (x := f x) (G := su R.2.2.2 (f x) (- R.2.2.2 (f x))) j3 hx
  exact H z4 ⟨lvS_fr (L := L) g6 (fun g hg => Or.inl (cP_in hg)) ⟨_, g5, n4.2.2.1⟩ j1, g5, n4, j4, uL_ch j5 hv ex h0, by unfold chA; rw [List.length_map]; exact j6, by rw [b1_ch]; exact j7, m, cwC_fr g6 (fun h9 => by unfold cP lv at h9; omega) j8, j9⟩
end XCD
