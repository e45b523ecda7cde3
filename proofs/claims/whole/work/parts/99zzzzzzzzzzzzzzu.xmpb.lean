/-! maps: the arcs of the reference, each by its number -/
def aK9 (A : rn_L) : Nat → Nat
  | 0 => 0
  | k + 1 => aK9 A k + max 1 (uN A (rn_b A (k + 1)) - uN A (rn_b A k))
/-- the number of the arc that ends before place u of ring k -/
def gK9 (A : rn_L) (k u : Nat) : Nat := aK9 A k + ((if uN A u = uN A (rn_b A k) then uN A (rn_b A (k + 1)) - uN A (rn_b A k) else uN A u - uN A (rn_b A k)) - 1)
def gA9 (A : rn_L) (v : Nat) : Nat := gK9 A (rn_c A v) v
def gR9 (A : rn_L) (v : Nat) : Nat := gK9 A (rn_c A v) (v + 1)
section XMB
theorem uN_0 {A : rn_L} {b : Nat} : ∀ e, b ≤ e → (∀ u, b ≤ u → u < e → uns A u = 0) → uN A e = uN A b
  | 0, h, _ => by rw [show b = 0 by omega]
  | e + 1, h, hu => by
    by_cases c : b = e + 1
    · rw [c]
    · have ih := uN_0 e (by omega) (fun u h1 h2 => hu u h1 (by omega))
      show uN A e + (if uns A e = 0 then 0 else 1) = _
      rw [if_pos (hu e (by omega) (by omega)), Nat.add_zero, ih]
theorem uN_s1 {A : rn_L} {v : Nat} (h : uns A v = 0) : uN A (v + 1) = uN A v := by
  show uN A v + (if uns A v = 0 then 0 else 1) = _
  rw [if_pos h]
  rfl
theorem uN_s2 {A : rn_L} {v : Nat} (h : uns A v ≠ 0) : uN A (v + 1) = uN A v + 1 := by
  show uN A v + (if uns A v = 0 then 0 else 1) = _
  rw [if_neg h]
theorem gA9_at {A : rn_L} {k v : Nat} (h1 : rn_b A k ≤ v) (h2 : v < rn_b A (k + 1)) : gA9 A v = gK9 A k v := by
  unfold gA9
  rw [rn_c_of A k v h1 h2]
theorem gR9_at {A : rn_L} {k v : Nat} (h1 : rn_b A k ≤ v) (h2 : v < rn_b A (k + 1)) : gR9 A v = gK9 A k (v + 1) := by
  unfold gR9
  rw [rn_c_of A k v h1 h2]
theorem gK9_lt {A : rn_L} {k u : Nat} (h : u ≤ rn_b A (k + 1)) : aK9 A k ≤ gK9 A k u ∧ gK9 A k u < aK9 A (k + 1) := by
  have := uN_mono (A := A) (rn_b A (k + 1)) h
  unfold gK9
  refine ⟨by omega, ?_⟩
  show _ < aK9 A k + max 1 _
  split <;> omega
theorem aK9_mono {A : rn_L} {a : Nat} : ∀ b, a ≤ b → aK9 A a ≤ aK9 A b
  | 0, h => by rw [show a = 0 by omega]; exact Nat.le_refl _
  | b + 1, h => by
    by_cases e : a = b + 1
    · rw [e]; exact Nat.le_refl _
    · have := aK9_mono (A := A) (a := a) b (by omega)
      show aK9 A a ≤ aK9 A b + _
      omega
theorem aK9_le {A : rn_L} : ∀ k, aK9 A k ≤ uN A (rn_b A k) + k
  | 0 => Nat.zero_le _
  | k + 1 => by
    have ih := aK9_le (A := A) k
    have := uN_mono (A := A) (rn_b A (k + 1)) (rn_b_mono A k)
    show aK9 A k + max 1 _ ≤ _
    omega
/-- the arc before a visit is the arc behind the one before it -/
theorem gA9_nx {A : rn_L} {v : Nat} (hv : v < A.flatten.length) : gA9 A (rn_nx A v) = gR9 A v := by
  obtain ⟨c1, c2, c3⟩ := rn_c_in A v hv
  have e := c_nx hv
  unfold gA9 gR9
  rw [e]
  unfold rn_nx
  by_cases h : v + 1 < rn_b A (rn_c A v + 1)
  · rw [if_pos h]
  · rw [if_neg h]
    have ev : v + 1 = rn_b A (rn_c A v + 1) := by omega
    rw [ev]
    unfold gK9
    rw [if_pos rfl]
    by_cases k : uN A (rn_b A (rn_c A v + 1)) = uN A (rn_b A (rn_c A v))
    · rw [if_pos k]
    · rw [if_neg k]
theorem gR9_ov {A : rn_L} {v : Nat} (h : uns A v = 0) : gR9 A v = gA9 A v := by
  unfold gA9 gR9 gK9
  rw [uN_s1 h]
/-- one number: one arc -/
theorem gR9_cn {A : rn_L} {h : Nat → Nat} (hh : ∀ v, v < A.flatten.length → uns A (rn_nx A v) = 0 → h (rn_nx A v) = h v) {v w : Nat} (hv : v < A.flatten.length) (hw : w < A.flatten.length) (e : gR9 A v = gR9 A w) : h v = h w := by
  have key : ∀ v w, v < A.flatten.length → w < A.flatten.length → v ≤ w → gR9 A v = gR9 A w → h v = h w := by
    intro v w hv hw hvw e
    obtain ⟨c1, c2, c3⟩ := rn_c_in A v hv
    obtain ⟨d1, d2, d3⟩ := rn_c_in A w hw
    have l1 := gK9_lt (A := A) (k := rn_c A v) (u := v + 1) (by omega)
    have l2 := gK9_lt (A := A) (k := rn_c A w) (u := w + 1) (by omega)
    have e' : gK9 A (rn_c A v) (v + 1) = gK9 A (rn_c A w) (w + 1) := e
    have ec : rn_c A v = rn_c A w := by
      rcases Nat.lt_trichotomy (rn_c A v) (rn_c A w) with h9 | h9 | h9
      · have := aK9_mono (A := A) (a := rn_c A v + 1) (rn_c A w) (by omega)
        omega
      · exact h9
      · have := aK9_mono (A := A) (a := rn_c A w + 1) (rn_c A v) (by omega)
        omega
    rw [← ec] at d2 d3 e'
    generalize rn_c A v = k at *
    have nx1 : ∀ u, rn_b A k ≤ u → u + 1 < rn_b A (k + 1) → rn_nx A u = u + 1 := fun u h1 h2 => by
      unfold rn_nx
      rw [rn_c_of A k u h1 (by omega), if_pos h2]
    have hb := rn_b_le A (k + 1)
    have st : ∀ d u, rn_b A k ≤ u → u + d < rn_b A (k + 1) → uN A (u + d + 1) = uN A (u + 1) → h (u + d) = h u := by
      intro d
      induction d with
      | zero => exact fun u _ _ _ => rfl
      | succ d ih =>
        intro u h1 h2 h3
        have m1 := uN_mono (A := A) (a := u + 1) (u + d + 1) (by omega)
        have m2 : uN A (u + d + 1) ≤ uN A (u + d + 1 + 1) := uN_mono (A := A) (u + d + 1 + 1) (by omega)
        have h3 : uN A (u + d + 1 + 1) = uN A (u + 1) := h3
        have u0 : uns A (u + d + 1) = 0 := by
          by_cases c : uns A (u + d + 1) = 0
          · exact c
          · have := uN_s2 c
            omega
        have en := nx1 (u + d) (by omega) (by omega)
        have := hh (u + d) (by omega) (by rw [en]; exact u0)
        rw [en] at this
        show h (u + d + 1) = _
        rw [this]
        exact ih u h1 (by omega) (by omega)
    have mv := uN_mono (A := A) (a := rn_b A k) (v + 1) (by omega)
    have mw := uN_mono (A := A) (a := v + 1) (w + 1) (by omega)
    have me := uN_mono (A := A) (a := w + 1) (rn_b A (k + 1)) (by omega)
    by_cases q : uN A (v + 1) = uN A (w + 1)
    · have := st (w - v) v c2 (by omega) (by rw [show v + (w - v) + 1 = w + 1 by omega]; exact q.symm)
      rw [show v + (w - v) = w by omega] at this
      exact this.symm
    · unfold gK9 at e'
      rw [if_neg (show ¬ uN A (w + 1) = uN A (rn_b A k) by omega)] at e'
      by_cases q2 : uN A (v + 1) = uN A (rn_b A k)
      · rw [if_pos q2] at e'
        have qe : uN A (w + 1) = uN A (rn_b A (k + 1)) := by omega
        have s1 := st (rn_b A (k + 1) - 1 - w) w d2 (by omega) (by rw [show w + (rn_b A (k + 1) - 1 - w) + 1 = rn_b A (k + 1) by omega]; exact qe.symm)
        rw [show w + (rn_b A (k + 1) - 1 - w) = rn_b A (k + 1) - 1 by omega] at s1
        have b1 := uN_mono (A := A) (a := rn_b A k + 1) (v + 1) (by omega)
        have b2 : uN A (rn_b A k) ≤ uN A (rn_b A k + 1) := uN_mono (A := A) (rn_b A k + 1) (by omega)
        have s2 := st (v - rn_b A k) (rn_b A k) (Nat.le_refl _) (by omega) (by rw [show rn_b A k + (v - rn_b A k) + 1 = v + 1 by omega]; omega)
        rw [show rn_b A k + (v - rn_b A k) = v by omega] at s2
        have u0 : uns A (rn_b A k) = 0 := by
          by_cases c : uns A (rn_b A k) = 0
          · exact c
          · have := uN_s2 c
            omega
        have en : rn_nx A (rn_b A (k + 1) - 1) = rn_b A k := by
          unfold rn_nx
          rw [rn_c_of A k _ (by omega) (by omega), if_neg (by omega)]
        have := hh (rn_b A (k + 1) - 1) (by omega) (by rw [en]; exact u0)
        rw [en] at this
        rw [s2, this, s1]
      · rw [if_neg q2] at e'
        omega
  rcases Nat.le_total v w with h9 | h9
  · exact key v w hv hw h9 e
  · exact (key w v hw hv h9 e.symm).symm
end XMB
