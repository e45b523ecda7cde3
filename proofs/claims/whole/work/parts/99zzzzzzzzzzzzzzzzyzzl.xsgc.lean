/-! signature: more unknowns than equations; bases at right angles; the coefficients hang on the traces alone -/
/-- the product by weights g -/
def qG9 (n : Nat) (g x y : Nat → Rat) : Rat := qS9 (fun i => g i * x i * y i) n
section XSGC
variable {n : Nat}
theorem qD_l2 {v x y : Nat → Rat} {a b : Rat} : qD9 n v (fun i => a * x i + b * y i) = a * qD9 n v x + b * qD9 n v y := by
  unfold qD9
  rw [qS_cg (g := fun k => a * (v k * x k) + b * (v k * y k)) (fun k _ => by grind), qS_add, qS_mul, qS_mul]
theorem lin9 (a : Nat → Nat → Rat) : ∀ (m : Nat) (S : List Nat), S.Nodup → m < S.length → ∃ x : Nat → Rat, (∃ i, i ∈ S ∧ x i ≠ 0) ∧ (∀ i, i ∉ S → x i = 0) ∧ ∀ e, e < m → qD9 n (a e) x = 0 := by
  intro m
  induction m with
  | zero =>
    intro S hS hl
    cases S with
    | nil => exact absurd hl (Nat.lt_irrefl 0)
    | cons s S =>
      refine ⟨dl9 s, ⟨s, List.mem_cons_self, ?_⟩, fun i hi => if_neg (fun h => hi (by rw [h]; exact List.mem_cons_self)), fun e he => absurd he (by omega)⟩
      rw [show dl9 s s = 1 from if_pos rfl]
      exact fun h => absurd h (by decide)
  | succ m ih =>
    intro S hS hl
    obtain ⟨x, ⟨s, hs, hx⟩, x0, xe⟩ := ih S hS (by omega)
    have hl2 : (S.erase s).length = S.length - 1 := List.length_erase_of_mem hs
    obtain ⟨y, ⟨r, hr, hy⟩, y0, ye⟩ := ih (S.erase s) (hS.erase s) (by omega)
    have hm : ∀ i, i ∉ S → i ∉ S.erase s := fun i hi h => hi (List.mem_of_mem_erase h)
    have ys : y s = 0 := y0 s (fun h => (List.Nodup.not_mem_erase hS) h)
    by_cases hb : qD9 n (a m) y = 0
    · refine ⟨y, ⟨r, List.mem_of_mem_erase hr, hy⟩, fun i hi => y0 i (hm i hi), fun e he => ?_⟩
      by_cases h9 : e = m
      · rw [h9]
        exact hb
      · exact ye e (by omega)
    · refine ⟨fun i => qD9 n (a m) y * x i + -qD9 n (a m) x * y i, ⟨s, hs, ?_⟩, fun i hi => ?_, fun e he => ?_⟩
      · show qD9 n (a m) y * x s + -qD9 n (a m) x * y s ≠ 0
        rw [ys]
        intro h
        have h2 : qD9 n (a m) y * x s = 0 := by grind
        rcases Rat.mul_eq_zero.mp h2 with h3 | h3
        · exact hb h3
        · exact hx h3
      · show qD9 n (a m) y * x i + -qD9 n (a m) x * y i = 0
        rw [x0 i hi, y0 i (hm i hi)]
        grind
      · rw [qD_l2]
        by_cases h9 : e = m
        · rw [h9]
          grind
        · rw [xe e (by omega), ye e (by omega)]
          grind
theorem lin_n (a : Nat → Nat → Rat) {m : Nat} (h : m < n) : ∃ x : Nat → Rat, (∃ i, i < n ∧ x i ≠ 0) ∧ ∀ e, e < m → qD9 n (a e) x = 0 := by
  obtain ⟨x, ⟨i, hi, hx⟩, -, h2⟩ := lin9 (n := n) a m (List.range n) List.nodup_range (by rw [List.length_range]; exact h)
  exact ⟨x, ⟨i, List.mem_range.mp hi, hx⟩, h2⟩
/-- an inverse on one side is one on the other -/
theorem sqr9 {P Q : mQ99} (h : ∀ i, i < n → ∀ j, j < n → qS9 (fun k => Q i k * P k j) n = dl9 j i) (x : Nat → Rat) : ∀ i, i < n → qV9 n P (qV9 n Q x) i = x i := by
  obtain ⟨c, ⟨s, hs, hc⟩, h2⟩ := lin_n (n := n + 1) (fun e k => if k = n then x e else P e k) (m := n) (by omega)
  have h3 : ∀ e, e < n → qV9 n P c e + x e * c n = 0 := fun e he => by
    have := h2 e he
    have e1 : qD9 (n + 1) (fun k => if k = n then x e else P e k) c = qS9 (fun k => (if k = n then x e else P e k) * c k) n + (if n = n then x e else P e n) * c n := rfl
    rw [e1, if_pos rfl] at this
    have e2 : qS9 (fun k => (if k = n then x e else P e k) * c k) n = qV9 n P c e := qS_cg (fun k hk => by rw [if_neg (by omega)])
    rw [e2] at this
    exact this
  have qp : ∀ (z : Nat → Rat) (i : Nat), i < n → qV9 n Q (qV9 n P z) i = z i := fun z i hi => by
    unfold qV9
    have e1 : qS9 (fun k => Q i k * qS9 (fun l => P k l * z l) n) n = qS9 (fun k => qS9 (fun l => z l * (Q i k * P k l)) n) n := qS_cg (fun k _ => by
      rw [← qS_mul]
      exact qS_cg (fun l _ => by grind))
    rw [e1, qS_sw]
    have e2 : qS9 (fun l => qS9 (fun k => z l * (Q i k * P k l)) n) n = qD9 n (dl9 i) z := qS_cg (fun l hl => by
      rw [qS_mul, h i hi l hl]
      show z l * (if i = l then 1 else 0) = (if l = i then 1 else 0) * z l
      by_cases h9 : i = l
      · rw [if_pos h9, if_pos h9.symm]
        exact Rat.mul_comm _ _
      · rw [if_neg h9, if_neg (fun h => h9 h.symm)]
        exact Rat.mul_comm _ _)
    rw [e2, qD_dl hi]
  have h4 : c n ≠ 0 := by
    intro h0
    have h5 : ∀ i, i < n → c i = 0 := fun i hi => by
      rw [← qp c i hi]
      have : ∀ k, k < n → qV9 n P c k = 0 := fun k hk => by
        have := h3 k hk
        rw [h0] at this
        grind
      unfold qV9
      rw [qS_cg (g := fun _ => 0) (fun k hk => by
        have := this k hk
        unfold qV9 at this
        rw [this]
        exact Rat.mul_zero _), qS_0]
    by_cases h9 : s = n
    · exact hc (by rw [h9]; exact h0)
    · exact hc (h5 s (by omega))
  have h6 : ∀ e, e < n → x e = qV9 n P (fun k => -(c k * (c n)⁻¹)) e := fun e he => by
    have e1 : qV9 n P (fun k => -(c k * (c n)⁻¹)) e = -(c n)⁻¹ * qV9 n P c e := by
      unfold qV9
      rw [← qS_mul]
      exact qS_cg (fun k _ => by grind)
    have e2 := h3 e he
    have e3 := Rat.mul_inv_cancel (c n) h4
    rw [e1]
    grind
  intro i hi
  have e4 : ∀ k, k < n → qV9 n Q x k = -(c k * (c n)⁻¹) := fun k hk => by
    rw [qV_cg h6 k]
    exact qp _ k hk
  rw [qV_cg e4 i]
  exact (h6 i hi).symm
/-- the traces tell the coefficients -/
theorem qE_T {A B : mQ99} (h : ∀ l, qT9 n A l = qT9 n B l) : ∀ k, qE9 A n k = qE9 B n k := by
  intro k
  induction k using Nat.strongRecOn with
  | _ k ih =>
    cases k with
    | zero => rw [qE_0, qE_0]
    | succ k =>
      have e1 : ∀ C : mQ99, qS9 (fun l => sn9 (l + 1) * qE9 C n (k - l) * qT9 n C (l + 1)) (k + 1) = -((k : Rat) + 1) * qE9 C n (k + 1) := fun C => by
        have a := tr_E (A := C) n (k + 1)
        rw [tr_N qE_0, qS_hd, show sn9 0 = 1 from rfl, tr_0, cs_s] at a
        have b : qS9 (fun l => sn9 (l + 1) * qE9 C n (k + 1 - (l + 1)) * qT9 n C (l + 1)) (k + 1) = qS9 (fun l => sn9 (l + 1) * qE9 C n (k - l) * qT9 n C (l + 1)) (k + 1) := qS_cg (fun l _ => by rw [show k + 1 - (l + 1) = k - l by omega])
        rw [b, show k + 1 - 0 = k + 1 by omega] at a
        grind
      have e2 : qS9 (fun l => sn9 (l + 1) * qE9 A n (k - l) * qT9 n A (l + 1)) (k + 1) = qS9 (fun l => sn9 (l + 1) * qE9 B n (k - l) * qT9 n B (l + 1)) (k + 1) := qS_cg (fun l hl => by rw [ih (k - l) (by omega), h])
      rw [e1, e1] at e2
      have hk : (0 : Rat) < (k : Rat) + 1 := by
        rw [← cs_s]
        exact Rat.natCast_pos.mpr (by omega)
      have e3 : ((k : Rat) + 1) * (qE9 A n (k + 1) - qE9 B n (k + 1)) = 0 := by grind
      rcases Rat.mul_eq_zero.mp e3 with h9 | h9
      · rw [h9] at hk
        exact absurd hk (by decide)
      · grind
end XSGC
/-- A over another basis P (inverse Q) is B -/
def cj9 (n : Nat) (A B P Q : mQ99) : Prop := (∀ i, i < n → ∀ j, j < n → qS9 (fun k => Q i k * P k j) n = dl9 j i) ∧ ∀ (x : Nat → Rat) i, i < n → qV9 n A (qV9 n P x) i = qV9 n P (qV9 n B x) i
section XSGC2
variable {n : Nat} {A B P Q : mQ99}
theorem qA_cg {x y : Nat → Rat} (h : ∀ i, i < n → x i = y i) : ∀ l i, i < n → qA9 n A x l i = qA9 n A y l i := by
  intro l
  induction l with
  | zero => exact h
  | succ l ih => exact fun i _ => qV_cg ih i
theorem cj_A (h : cj9 n A B P Q) (x : Nat → Rat) : ∀ l i, i < n → qA9 n A (qV9 n P x) l i = qV9 n P (qA9 n B x l) i := by
  intro l
  induction l with
  | zero => exact fun i _ => rfl
  | succ l ih =>
    intro i hi
    show qV9 n A (qA9 n A (qV9 n P x) l) i = qV9 n P (qV9 n B (qA9 n B x l)) i
    rw [qV_cg ih i, h.2 _ i hi]
theorem qA_lin {c : Nat → Rat} {x : Nat → Nat → Rat} {m : Nat} : ∀ l i, i < n → qA9 n A (fun k => qS9 (fun d => c d * x d k) m) l i = qS9 (fun d => c d * qA9 n A (x d) l i) m := by
  intro l
  induction l with
  | zero => exact fun i _ => rfl
  | succ l ih =>
    intro i hi
    show qV9 n A (qA9 n A (fun k => qS9 (fun d => c d * x d k) m) l) i = qS9 (fun d => c d * qV9 n A (qA9 n A (x d) l) i) m
    rw [qV_cg ih i, qV_sum]
theorem qV_dl {x : Nat → Rat} : ∀ i, i < n → qS9 (fun d => x d * dl9 d i) n = x i := fun i hi => by
  have : qS9 (fun d => x d * dl9 d i) n = qD9 n (dl9 i) x := qS_cg (fun d _ => by
    show x d * (if i = d then 1 else 0) = (if d = i then 1 else 0) * x d
    by_cases h9 : i = d
    · rw [if_pos h9, if_pos h9.symm]
      exact Rat.mul_comm _ _
    · rw [if_neg h9, if_neg (fun h => h9 h.symm)]
      exact Rat.mul_comm _ _)
  rw [this, qD_dl hi]
theorem cj_T (h : cj9 n A B P Q) (l : Nat) : qT9 n A l = qT9 n B l := by
  unfold qT9
  have e1 : ∀ c, c < n → qA9 n A (dl9 c) l c = qS9 (fun k => qS9 (fun d => qA9 n B (dl9 d) l k * (Q d c * P c k)) n) n := fun c hc => by
    have a1 : ∀ i, i < n → dl9 c i = qV9 n P (qV9 n Q (dl9 c)) i := fun i hi => (sqr9 h.1 (dl9 c) i hi).symm
    rw [qA_cg a1 l c hc, cj_A h _ l c hc]
    have a2 : ∀ i, i < n → qV9 n Q (dl9 c) i = qS9 (fun d => Q d c * dl9 d i) n := fun i hi => by
      rw [qV_dl (x := fun d => Q d c) i hi]
      have : qV9 n Q (dl9 c) i = qD9 n (dl9 c) (Q i) := qS_cg (fun k _ => Rat.mul_comm _ _)
      rw [this, qD_dl hc]
    unfold qV9
    refine qS_cg (fun k hk => ?_)
    have a3 := qA_cg (A := B) a2 l k hk
    have a4 := qA_lin (n := n) (A := B) (c := fun d => Q d c) (x := dl9) (m := n) l k hk
    have a5 : qA9 n B (fun i => qS9 (fun k => Q i k * dl9 c k) n) l k = qS9 (fun d => Q d c * qA9 n B (dl9 d) l k) n := a3.trans a4
    rw [a5, ← qS_mul]
    exact qS_cg (fun d _ => by grind)
  rw [qS_cg e1, qS_sw]
  have e2 : ∀ k, k < n → qS9 (fun c => qS9 (fun d => qA9 n B (dl9 d) l k * (Q d c * P c k)) n) n = qA9 n B (dl9 k) l k := fun k hk => by
    rw [qS_sw]
    have a1 : ∀ d, d < n → qS9 (fun c => qA9 n B (dl9 d) l k * (Q d c * P c k)) n = dl9 k d * qA9 n B (dl9 d) l k := fun d hd => by
      rw [qS_mul, h.1 d hd k hk]
      exact Rat.mul_comm _ _
    rw [qS_cg a1]
    exact qD_dl (x := fun d => qA9 n B (dl9 d) l k) hk
  exact qS_cg e2
theorem cj_E (h : cj9 n A B P Q) (k : Nat) : qE9 A n k = qE9 B n k := qE_T (cj_T h) k
theorem qN_cg {E x y : Nat → Rat} (h : ∀ i, i < n → x i = y i) : ∀ j i, i < n → qN9 n A E x j i = qN9 n A E y j i := by
  intro j
  induction j with
  | zero => exact h
  | succ j ih =>
    intro i hi
    show E (j + 1) * x i - qV9 n A (qN9 n A E x j) i = E (j + 1) * y i - qV9 n A (qN9 n A E y j) i
    rw [h i hi, qV_cg ih i]
theorem cj_N (h : cj9 n A B P Q) {E : Nat → Rat} (x : Nat → Rat) : ∀ j i, i < n → qN9 n A E (qV9 n P x) j i = qV9 n P (qN9 n B E x j) i := by
  intro j
  induction j with
  | zero => exact fun i _ => rfl
  | succ j ih =>
    intro i hi
    show E (j + 1) * qV9 n P x i - qV9 n A (qN9 n A E (qV9 n P x) j) i = qV9 n P (fun i => E (j + 1) * x i - qV9 n B (qN9 n B E x j) i) i
    rw [qV_cg ih i, h.2 _ i hi]
    have e2 : qD9 n (P i) (fun k => E (j + 1) * x k - 1 * qV9 n B (qN9 n B E x j) k) = E (j + 1) * qV9 n P x i - 1 * qV9 n P (qV9 n B (qN9 n B E x j)) i := qD_lin
    have e3 : qD9 n (P i) (fun k => E (j + 1) * x k - 1 * qV9 n B (qN9 n B E x j) k) = qV9 n P (fun i => E (j + 1) * x i - qV9 n B (qN9 n B E x j) i) i := qS_cg (fun k _ => by grind)
    rw [← e3, e2]
    grind
end XSGC2
