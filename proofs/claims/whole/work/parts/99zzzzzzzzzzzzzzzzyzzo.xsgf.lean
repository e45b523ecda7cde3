/-! signature: the changes of sign of a form, and what subspaces say of them -/
def nuQ9 (e : Nat → Rat) (k : Nat) : Int := (e k).num
/-- changes of sign: of the coefficients, and with every second sign turned -/
def vM9 (A : mQ99) (n : Nat) : Nat := (wv9 (nuQ9 (qE9 A n)) n).1
def vP9 (A : mQ99) (n : Nat) : Nat := (wv9 (tw9 (nuQ9 (qE9 A n))) n).1
def sgQ9 (x y : Int) : Prop := (0 < x ↔ 0 < y) ∧ (x < 0 ↔ y < 0)
section XSGF
theorem nu_ps {q : Rat} : 0 < q.num ↔ 0 < q := by
  constructor
  · intro h
    refine Rat.lt_of_le_of_ne (Rat.num_nonneg.mp (by omega)) (fun h9 => ?_)
    rw [← h9] at h
    exact absurd h (by decide)
  · intro h
    have h1 : 0 ≤ q.num := Rat.num_nonneg.mpr (Rat.le_of_lt h)
    have h2 : q.num ≠ 0 := fun h9 => by
      rw [Rat.num_eq_zero.mp h9] at h
      exact absurd h (by decide)
    omega
theorem nu_ng {q : Rat} : q.num < 0 ↔ q < 0 := by
  have := nu_ps (q := -q)
  rw [Rat.neg_num] at this
  constructor
  · intro h
    have := this.mp (by omega)
    grind
  · intro h
    have := this.mpr (by grind)
    omega
theorem sg_op {a b c d : Int} (h1 : sgQ9 a b) (h2 : sgQ9 c d) : opp9 a c ↔ opp9 b d := by
  unfold opp9
  rw [h1.1, h1.2, h2.1, h2.2]
theorem sg_0 {a b : Int} (h : sgQ9 a b) : a = 0 ↔ b = 0 := by
  have := h.1
  have := h.2
  omega
theorem wv_sg {a b : Nat → Int} (h : ∀ k, sgQ9 (a k) (b k)) : ∀ n, (wv9 a n).1 = (wv9 b n).1 ∧ sgQ9 (wv9 a n).2 (wv9 b n).2 := by
  intro n
  induction n with
  | zero => exact ⟨rfl, h 0⟩
  | succ n ih =>
    by_cases h0 : a (n + 1) = 0
    · rw [wv_z h0, wv_z ((sg_0 (h (n + 1))).mp h0)]
      exact ih
    · rw [wv_s h0, wv_s (fun h9 => h0 ((sg_0 (h (n + 1))).mpr h9))]
      refine ⟨?_, h (n + 1)⟩
      show (wv9 a n).1 + (if opp9 (wv9 a n).2 (a (n + 1)) then 1 else 0) = (wv9 b n).1 + (if opp9 (wv9 b n).2 (b (n + 1)) then 1 else 0)
      have := sg_op ih.2 (h (n + 1))
      rw [ih.1]
      by_cases ho : opp9 (wv9 a n).2 (a (n + 1))
      · rw [if_pos ho, if_pos (this.mp ho)]
      · rw [if_neg ho, if_neg (fun h9 => ho (this.mpr h9))]
theorem sg_tw {a b : Nat → Int} (h : ∀ k, sgQ9 (a k) (b k)) (k : Nat) : sgQ9 (tw9 a k) (tw9 b k) := by
  have := h k
  unfold sgQ9 at *
  unfold tw9
  split <;> omega
theorem den_ex (e : Nat → Rat) : ∀ K, ∃ D : Nat, 0 < D ∧ ∀ k, k < K → ∃ z : Int, (z : Rat) = e k * (D : Rat) := by
  intro K
  induction K with
  | zero => exact ⟨1, by omega, fun k hk => absurd hk (by omega)⟩
  | succ K ih =>
    obtain ⟨D, h1, h2⟩ := ih
    have hd : (e K) * ((e K).den : Rat) = ((e K).num : Rat) := by
      have a1 : Rat.divInt (e K).num ((e K).den : Int) = e K := Rat.num_divInt_den (e K)
      rw [Rat.divInt_eq_div] at a1
      have hne : (((e K).den : Int) : Rat) ≠ 0 := fun h => by
        have := (Rat.natCast_eq_zero_iff (a := (e K).den)).mp h
        exact (e K).den_nz this
      have a2 := Rat.div_mul_cancel (a := (((e K).num : Int) : Rat)) hne
      rw [a1] at a2
      exact a2
    refine ⟨D * (e K).den, Nat.mul_pos h1 (e K).den_pos, fun k hk => ?_⟩
    by_cases h9 : k = K
    · subst h9
      refine ⟨(e k).num * (D : Int), ?_⟩
      rw [Rat.intCast_mul, ← hd, Rat.natCast_mul]
      show e k * ((e k).den : Rat) * (D : Rat) = _
      grind
    · obtain ⟨z, hz⟩ := h2 k (by omega)
      refine ⟨z * ((e K).den : Int), ?_⟩
      rw [Rat.intCast_mul, hz, Rat.natCast_mul]
      show e k * (D : Rat) * ((e K).den : Rat) = _
      grind
theorem int_ex {e : Nat → Rat} {K : Nat} (hK : ∀ k, K ≤ k → e k = 0) : ∃ (D : Rat) (z : Nat → Int), 0 < D ∧ (∀ k, ((z k : Int) : Rat) = e k * D) ∧ ∀ k, sgQ9 (z k) (nuQ9 e k) := by
  obtain ⟨D, h1, h2⟩ := den_ex e K
  have h3 : ∀ k, ∃ z : Int, (z : Rat) = e k * (D : Rat) := fun k => by
    by_cases h9 : k < K
    · exact h2 k h9
    · refine ⟨0, ?_⟩
      rw [hK k (by omega), Rat.zero_mul]
      rfl
  have hD : (0 : Rat) < (D : Rat) := Rat.natCast_pos.mpr h1
  refine ⟨(D : Rat), fun k => Classical.choose (h3 k), hD, fun k => Classical.choose_spec (h3 k), fun k => ?_⟩
  have h4 := Classical.choose_spec (h3 k)
  show sgQ9 (Classical.choose (h3 k)) (nuQ9 e k)
  generalize Classical.choose (h3 k) = z at h4
  have p1 : 0 < z ↔ 0 < e k := by
    rw [← Rat.intCast_pos, h4]
    exact Rat.mul_pos_iff_of_pos_right hD
  have p2 : z < 0 ↔ e k < 0 := by
    have : ((z : Int) : Rat) < ((0 : Int) : Rat) ↔ z < 0 := Rat.intCast_lt_intCast
    rw [← this, h4]
    exact Rat.mul_neg_iff_of_pos_right hD
  exact ⟨p1.trans nu_ps.symm, p2.trans nu_ng.symm⟩
theorem zetq {e f : Nat → Rat} {K : Nat} (he : ∀ k, K ≤ k → e k = 0) (hf : ∀ k, K ≤ k → f k = 0) (h0 : e 0 = 1) (g0 : f 0 = 1) (h : ∀ k, f (k + 1) ≠ 0 → 0 < e (k + 1) * f (k + 1) - e (k + 2) * f k) (n : Nat) : (wv9 (nuQ9 f) n).1 ≤ (wv9 (nuQ9 e) (n + 1)).1 ∧ (wv9 (tw9 (nuQ9 f)) n).1 ≤ (wv9 (tw9 (nuQ9 e)) (n + 1)).1 := by
  obtain ⟨D, z, d1, d2, d3⟩ := int_ex he
  obtain ⟨C, y, c1, c2, c3⟩ := int_ex hf
  have z0 : 0 < z 0 := by
    rw [(d3 0).1]
    show 0 < (e 0).num
    rw [h0]
    decide
  have y0 : 0 < y 0 := by
    rw [(c3 0).1]
    show 0 < (f 0).num
    rw [g0]
    decide
  have key := zet_tw (e := z) (f := y) z0 y0 (fun k hk => by
    have hk2 : f (k + 1) ≠ 0 := fun h9 => hk (by
      have := c2 (k + 1)
      rw [h9, Rat.zero_mul] at this
      have : ((y (k + 1) : Int) : Rat) = ((0 : Int) : Rat) := this
      exact Rat.intCast_inj.mp this)
    have a := h k hk2
    have b := Rat.mul_pos (Rat.mul_pos d1 c1) a
    rw [← Rat.intCast_pos, Rat.intCast_sub, Rat.intCast_mul, Rat.intCast_mul, d2, d2, c2, c2]
    grind) n
  rw [(wv_sg c3 n).1, (wv_sg d3 (n + 1)).1, (wv_sg (sg_tw c3) n).1, (wv_sg (sg_tw d3) (n + 1)).1] at key
  exact key
variable {n : Nat} {g : Nat → Rat} {A : mQ99}
theorem v_up (hg : ∀ i, i < n + 1 → 0 < g i) (hs : syG9 (n + 1) g A) : vM9 A n ≤ vM9 A (n + 1) ∧ vP9 A n ≤ vP9 A (n + 1) := zetq (K := n + 2) (fun k hk => (ch9 (n + 1) A).1 k (by omega)) (fun k hk => (ch9 n A).1 k (by omega)) qE_0 qE_0 (bqG9 hg hs) n
theorem v_mono {m : Nat} : ∀ {n : Nat}, m ≤ n → (∀ i, i < n → 0 < g i) → syG9 n g A → vM9 A m ≤ vM9 A n ∧ vP9 A m ≤ vP9 A n := by
  intro n
  induction n with
  | zero =>
    intro h _ _
    rw [show m = 0 by omega]
    exact ⟨Nat.le_refl _, Nat.le_refl _⟩
  | succ n ih =>
    intro h hg hs
    by_cases h9 : m = n + 1
    · rw [h9]
      exact ⟨Nat.le_refl _, Nat.le_refl _⟩
    · have a := ih (by omega) (fun i hi => hg i (by omega)) (sy_le hs (by omega))
      have b := v_up hg hs
      exact ⟨Nat.le_trans a.1 b.1, Nat.le_trans a.2 b.2⟩
theorem v_cj {B P Q : mQ99} (h : cj9 n A B P Q) : vM9 A n = vM9 B n ∧ vP9 A n = vP9 B n := by
  unfold vM9 vP9
  rw [show qE9 A n = qE9 B n from funext (cj_E h)]
  exact ⟨rfl, rfl⟩
theorem v_sum : vM9 A n + vP9 A n ≤ n := by
  obtain ⟨q, q1, -, -, -, -, q2⟩ := vv_le (e := nuQ9 (qE9 A n)) (by
    show (qE9 A n 0).num ≠ 0
    rw [qE_0]
    decide) n
  exact Nat.le_trans q2 q1
theorem v_rk {b : Nat} (hb : ∀ k, b < k → qE9 A n k = 0) : vM9 A n + vP9 A n ≤ b := by
  obtain ⟨q, q1, -, -, q3, -, q2⟩ := vv_le (e := nuQ9 (qE9 A n)) (by
    show (qE9 A n 0).num ≠ 0
    rw [qE_0]
    decide) n
  by_cases h9 : q ≤ b
  · exact Nat.le_trans q2 h9
  · refine absurd ?_ q3
    show (qE9 A n q).num = 0
    rw [hb q (by omega)]
    rfl
end XSGF
