/-! counting: a property that just n things have -/
def cnt9 {α : Type} (Φ : α → Prop) (n : Nat) : Prop := ∃ Ls : List α, Ls.Nodup ∧ (∀ L, L ∈ Ls ↔ Φ L) ∧ Ls.length = n
def sm9 (f : Nat → Nat) : Nat → Nat
  | 0 => 0
  | k + 1 => sm9 f k + f k
section CNT
variable {α β : Type} {Φ Ψ : α → Prop} {n : Nat}
theorem cnt_uni [DecidableEq α] {n' : Nat} (h : cnt9 Φ n) (h' : cnt9 Φ n') : n = n' := by
  obtain ⟨l, a1, a2, a3⟩ := h
  obtain ⟨l', b1, b2, b3⟩ := h'
  have k1 := nodup_le l l' a1 (fun x hx => (b2 x).mpr ((a2 x).mp hx))
  have k2 := nodup_le l' l b1 (fun x hx => (a2 x).mpr ((b2 x).mp hx))
  omega
theorem cnt_cg (e : ∀ L, Φ L ↔ Ψ L) (h : cnt9 Φ n) : cnt9 Ψ n := by
  obtain ⟨l, a1, a2, a3⟩ := h
  exact ⟨l, a1, fun L => (a2 L).trans (e L), a3⟩
theorem cnt_0 (h : ∀ L, ¬ Φ L) : cnt9 Φ 0 := ⟨[], List.nodup_nil, fun L => ⟨fun h9 => absurd h9 List.not_mem_nil, fun h9 => absurd h9 (h L)⟩, rfl⟩
theorem cnt_1 {L0 : α} (h : ∀ L, Φ L ↔ L = L0) : cnt9 Φ 1 := ⟨[L0], List.nodup_cons.mpr ⟨List.not_mem_nil, List.nodup_nil⟩, fun L => by rw [List.mem_singleton]; exact (h L).symm, rfl⟩
theorem cnt_bij {Θ : β → Prop} (f : α → β) (hf : ∀ x, Φ x → Θ (f x)) (hi : ∀ x y, Φ x → Φ y → f x = f y → x = y) (hs : ∀ y, Θ y → ∃ x, Φ x ∧ f x = y) (h : cnt9 Φ n) : cnt9 Θ n := by
  obtain ⟨l, a1, a2, a3⟩ := h
  refine ⟨l.map f, ?_, fun y => ?_, by rw [List.length_map]; exact a3⟩
  · have key : ∀ l : List α, l.Nodup → (∀ x, x ∈ l → Φ x) → (l.map f).Nodup := by
      intro l
      induction l with
      | nil => exact fun _ _ => List.nodup_nil
      | cons a l ih =>
        intro hn hx
        obtain ⟨n1, n2⟩ := List.nodup_cons.mp hn
        refine List.nodup_cons.mpr ⟨fun h9 => ?_, ih n2 (fun x h9 => hx x (List.mem_cons_of_mem _ h9))⟩
        obtain ⟨b, b1, b2⟩ := List.mem_map.mp h9
        have := hi b a (hx b (List.mem_cons_of_mem _ b1)) (hx a List.mem_cons_self) b2
        rw [this] at b1
        exact n1 b1
    exact key l a1 (fun x hx => (a2 x).mp hx)
  · rw [List.mem_map]
    constructor
    · rintro ⟨x, x1, rfl⟩
      exact hf x ((a2 x).mp x1)
    · intro hy
      obtain ⟨x, x1, x2⟩ := hs y hy
      exact ⟨x, (a2 x).mpr x1, x2⟩
theorem cnt_or {n' : Nat} (hd : ∀ L, Φ L → Ψ L → False) (h : cnt9 Φ n) (h' : cnt9 Ψ n') : cnt9 (fun L => Φ L ∨ Ψ L) (n + n') := by
  obtain ⟨l, a1, a2, a3⟩ := h
  obtain ⟨l', b1, b2, b3⟩ := h'
  refine ⟨l ++ l', List.nodup_append.mpr ⟨a1, b1, fun x hx y hy e => ?_⟩, fun L => ?_, by rw [List.length_append, a3, b3]⟩
  · rw [← e] at hy
    exact hd x ((a2 x).mp hx) ((b2 x).mp hy)
  · rw [List.mem_append]
    exact or_congr (a2 L) (b2 L)
theorem cnt_sm {Φ : Nat → α → Prop} {f : Nat → Nat} (hd : ∀ L p q, Φ p L → Φ q L → p = q) : ∀ (k : Nat), (∀ p, p < k → cnt9 (Φ p) (f p)) → cnt9 (fun L => ∃ p, p < k ∧ Φ p L) (sm9 f k)
  | 0, _ => cnt_0 (fun L ⟨p, hp, _⟩ => absurd hp (Nat.not_lt_zero _))
  | k + 1, h => by
    have ih := cnt_sm hd k (fun p hp => h p (by omega))
    refine cnt_cg (fun L => ?_) (cnt_or (fun L ⟨p, p1, p2⟩ q => ?_) ih (h k (by omega)))
    · constructor
      · rintro (⟨p, p1, p2⟩ | h9)
        · exact ⟨p, by omega, p2⟩
        · exact ⟨k, by omega, h9⟩
      · rintro ⟨p, p1, p2⟩
        by_cases e : p = k
        · rw [e] at p2
          exact Or.inr p2
        · exact Or.inl ⟨p, by omega, p2⟩
    · have := hd L p k p2 q
      omega
end CNT
