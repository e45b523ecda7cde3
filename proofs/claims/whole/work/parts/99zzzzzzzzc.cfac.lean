/-! labels of rounds: what is the same along rounds is the same at one label; counting by parts -/
section MR
variable {β : Type} {N : Nat → Nat} {vs : Nat} {κ : Nat → β} {x : Int32}
theorem mr_in_k (hN : ∀ a, a < vs → N a < vs ∧ κ (N a) = κ a) : ∀ (d : Nat) (F : Nat → Int32) (v : Nat), v < vs → ∀ k, mr_in N x d F v k = F k ∨ (mr_in N x d F v k = x ∧ F k = -1 ∧ κ k = κ v)
  | 0, F, v, _, k => Or.inl rfl
  | d + 1, F, v, hv, k => by
    show (if F v = -1 then mr_in N x d (su F v x) (N v) else F) k = _ ∨ (if F v = -1 then mr_in N x d (su F v x) (N v) else F) k = _ ∧ _
    by_cases h : F v = -1
    · rw [if_pos h]
      have ih := mr_in_k hN d (su F v x) (N v) (hN v hv).1 k
      by_cases e : k = v
      · subst e
        have e1 : su F k x k = x := if_pos rfl
        rcases ih with ih | ⟨i1, -, -⟩
        · exact Or.inr ⟨ih.trans e1, h, rfl⟩
        · exact Or.inr ⟨i1, h, rfl⟩
      · have e1 : su F v x k = F k := if_neg e
        rcases ih with ih | ⟨i1, i2, i3⟩
        · exact Or.inl (ih.trans e1)
        · exact Or.inr ⟨i1, e1 ▸ i2, i3.trans (hN v hv).2⟩
    · rw [if_neg h]
      exact Or.inl rfl
theorem mr_in_v (hN : ∀ a, a < vs → N a < vs ∧ κ (N a) = κ a) {d : Nat} {F : Nat → Int32} {v : Nat} (hv : v < vs) (h : F v = -1) : mr_in N x (d + 1) F v v = x := by
  show (if F v = -1 then mr_in N x d (su F v x) (N v) else F) v = x
  rw [if_pos h]
  have e1 : su F v x v = x := if_pos rfl
  rcases mr_in_k (x := x) hN d (su F v x) (N v) (hN v hv).1 v with i | ⟨i, -, -⟩
  · exact i.trans e1
  · exact i
def mrI (κ : Nat → β) (vs n : Nat) (R : (Nat → Int32) × Nat) : Prop := R.2 ≤ n ∧ (∀ k, k < vs → R.1 k = -1 ∨ ∃ r, r < R.2 ∧ R.1 k = nI r) ∧ (∀ k, k < n → R.1 k ≠ -1) ∧ (∀ r, r < R.2 → ∃ k, k < vs ∧ R.1 k = nI r) ∧ ∀ j k, j < vs → k < vs → R.1 j ≠ -1 → R.1 j = R.1 k → κ j = κ k
theorem mr_out_k (hN : ∀ a, a < vs → N a < vs ∧ κ (N a) = κ a) {F : Nat → Int32} (hF : ∀ k, k < vs → F k = -1) (hvs : vs ≤ 48) : ∀ n, n ≤ vs → mrI κ vs n (mr_out N vs F n)
  | 0, _ => ⟨Nat.le_refl _, fun k hk => Or.inl (hF k hk), fun k hk => absurd hk (Nat.not_lt_zero _), fun r hr => absurd hr (Nat.not_lt_zero _), fun j k hj _ h9 _ => absurd (hF j hj) h9⟩
  | n + 1, hn => by
    obtain ⟨i1, i2, i3, i4, i5⟩ := mr_out_k hN hF hvs n (by omega)
    show mrI κ vs (n + 1) (if (mr_out N vs F n).1 n = -1 then (mr_in N (nI (mr_out N vs F n).2) vs (mr_out N vs F n).1 n, (mr_out N vs F n).2 + 1) else mr_out N vs F n)
    generalize mr_out N vs F n = R at i1 i2 i3 i4 i5
    obtain ⟨L, m⟩ := R
    dsimp only at i1 i2 i3 i4 i5 ⊢
    by_cases h : L n = -1
    · rw [if_pos h]
      have hx : nI m ≠ -1 := rn_neg1 (by omega)
      have key := mr_in_k (x := nI m) hN vs L n (by omega)
      have hnv : mr_in N (nI m) vs L n n = nI m := by
        obtain ⟨d, hd⟩ : ∃ d, vs = d + 1 := ⟨vs - 1, by omega⟩
        have := mr_in_v (x := nI m) (d := d) hN (show n < vs by omega) h
        rw [← hd] at this
        exact this
      have lbl : ∀ k, k < vs → L k ≠ -1 → ∃ r, r < m ∧ L k = nI r := fun k hk h9 => (i2 k hk).resolve_left h9
      refine ⟨?_, fun k hk => ?_, fun k hk => ?_, fun r hr => ?_, fun j k hj hk h1 h2 => ?_⟩
      · show m + 1 ≤ n + 1
        omega
      · show mr_in N (nI m) vs L n k = -1 ∨ ∃ r, r < m + 1 ∧ mr_in N (nI m) vs L n k = nI r
        rcases key k with e | ⟨e, -, -⟩
        · rw [e]
          rcases i2 k hk with q | ⟨r, r1, r2⟩
          · exact Or.inl q
          · exact Or.inr ⟨r, by omega, r2⟩
        · exact Or.inr ⟨m, by omega, e⟩
      · show mr_in N (nI m) vs L n k ≠ -1
        by_cases e9 : k = n
        · rw [e9, hnv]
          exact hx
        · rcases key k with e | ⟨e, -, -⟩
          · rw [e]
            exact i3 k (by omega)
          · rw [e]
            exact hx
      · show ∃ k, k < vs ∧ mr_in N (nI m) vs L n k = nI r
        have hr : r < m + 1 := hr
        by_cases e9 : r = m
        · exact ⟨n, by omega, by rw [e9]; exact hnv⟩
        · obtain ⟨k, k1, k2⟩ := i4 r (by omega)
          refine ⟨k, k1, ?_⟩
          rcases key k with e | ⟨-, e, -⟩
          · rw [e, k2]
          · rw [k2] at e
            exact absurd e (rn_neg1 (by omega))
      · have h1 : mr_in N (nI m) vs L n j ≠ -1 := h1
        have h2 : mr_in N (nI m) vs L n j = mr_in N (nI m) vs L n k := h2
        have nom : ∀ k, k < vs → mr_in N (nI m) vs L n k = L k → L k ≠ -1 → mr_in N (nI m) vs L n k ≠ nI m := by
          intro k hk e h9 h8
          obtain ⟨r, r1, r2⟩ := lbl k hk h9
          rw [e, r2] at h8
          have := nI_inj9 (by omega) (by omega) h8
          omega
        rcases key j with e | ⟨e, e2, e3⟩
        · rcases key k with g | ⟨g, g2, g3⟩
          · rw [e] at h1 h2
            rw [g] at h2
            exact i5 j k hj hk h1 h2
          · exact absurd (h2.trans g) (nom j hj e (by rw [← e]; exact h1))
        · rcases key k with g | ⟨g, g2, g3⟩
          · have : mr_in N (nI m) vs L n k = nI m := h2.symm.trans e
            have hk9 : L k ≠ -1 := by
              rw [← g, this]
              exact hx
            exact absurd this (nom k hk g hk9)
          · exact e3.trans g3.symm
    · rw [if_neg h]
      refine ⟨?_, i2, fun k hk => ?_, i4, i5⟩
      · show m ≤ n + 1
        omega
      · by_cases e9 : k = n
        · rw [e9]
          exact h
        · exact i3 k (by omega)
end MR
def sumQ (g : Nat → Nat) : Nat → Nat
  | 0 => 0
  | n + 1 => sumQ g n + g n
theorem sumQ_add (g h : Nat → Nat) : ∀ P, sumQ (fun p => g p + h p) P = sumQ g P + sumQ h P
  | 0 => rfl
  | P + 1 => by
    show sumQ (fun p => g p + h p) P + (g P + h P) = sumQ g P + g P + (sumQ h P + h P)
    rw [sumQ_add g h P]
    omega
theorem sumQ_one (a : Nat) : ∀ P, sumQ (fun p => if decide (a = p) = true then 1 else 0) P = if a < P then 1 else 0
  | 0 => rfl
  | P + 1 => by
    show sumQ _ P + (if decide (a = P) = true then 1 else 0) = _
    rw [sumQ_one a P]
    by_cases e : a = P
    · subst e
      rw [if_neg (Nat.lt_irrefl _), if_pos (Nat.lt_succ_self _), decide_eq_true rfl]
      rfl
    · rw [decide_eq_false e]
      by_cases h : a < P
      · rw [if_pos h, if_pos (show a < P + 1 by omega)]
        rfl
      · rw [if_neg h, if_neg (show ¬ a < P + 1 by omega)]
        rfl
theorem sumQ_nF (ψ : Nat → Nat) (P : Nat) : ∀ n, (∀ f, f < n → ψ f < P) → sumQ (fun p => nF (fun f => decide (ψ f = p)) n) P = n
  | 0, _ => by
    have : ∀ P, sumQ (fun p => nF (fun f => decide (ψ f = p)) 0) P = 0 := by
      intro P
      induction P with
      | zero => rfl
      | succ P ih =>
        show sumQ _ P + 0 = 0
        rw [ih]
    exact this P
  | n + 1, h => by
    have := sumQ_add (fun p => nF (fun f => decide (ψ f = p)) n) (fun p => if decide (ψ n = p) = true then 1 else 0) P
    rw [sumQ_nF ψ P n (fun f hf => h f (by omega)), sumQ_one, if_pos (h n (by omega))] at this
    exact this
theorem sumQ_low {g : Nat → Nat} : ∀ P, (∀ q, q < P → 2 ≤ g q) → 2 * P ≤ sumQ g P
  | 0, _ => Nat.le_refl _
  | P + 1, h => by
    have h1 := sumQ_low P (fun q hq => h q (by omega))
    have h2 := h P (by omega)
    show 2 * (P + 1) ≤ sumQ g P + g P
    omega
theorem sumQ_hi {g : Nat → Nat} {p : Nat} : ∀ P, p < P → (∀ q, q < P → 2 ≤ g q) → g p + 2 * P ≤ sumQ g P + 2
  | 0, hp, _ => absurd hp (Nat.not_lt_zero _)
  | P + 1, hp, h => by
    have h2 := h P (by omega)
    show g p + 2 * (P + 1) ≤ sumQ g P + g P + 2
    by_cases e : p = P
    · subst e
      have := sumQ_low p (fun q hq => h q (by omega))
      omega
    · have := sumQ_hi P (show p < P by omega) (fun q hq => h q (by omega))
      omega
/-- no part of a plane net has more than c + 2 faces -/
theorem pt_face {ψ : Nat → Nat} {c P n p : Nat} (hψ : ∀ f, f < n → ψ f < P) (h2 : ∀ q, q < P → 2 ≤ nF (fun f => decide (ψ f = q)) n) (hn : n = c + 2 * P) (hp : p < P) : nF (fun f => decide (ψ f = p)) n ≤ c + 2 := by
  have h3 := sumQ_nF ψ P n hψ
  have h4 := sumQ_hi (g := fun p => nF (fun f => decide (ψ f = p)) n) (p := p) P hp h2
  rw [h3] at h4
  omega
