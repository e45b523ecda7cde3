/-! orbits of a net's rings -/
theorem ow_pig : ∀ (n : Nat) (f : Nat → Nat), (∀ i, i ≤ n → f i < n) → ∃ i j, i < j ∧ j ≤ n ∧ f i = f j := by
  intro n
  induction n with
  | zero => intro f h; exact absurd (h 0 (Nat.le_refl 0)) (Nat.not_lt_zero _)
  | succ n ih =>
    intro f h
    by_cases e : ∃ i, i ≤ n ∧ f i = f (n + 1)
    · obtain ⟨i, hi, he⟩ := e
      exact ⟨i, n + 1, by omega, Nat.le_refl _, he⟩
    · have hne : ∀ i, i ≤ n → ¬ f i = f (n + 1) := fun i hi he => e ⟨i, hi, he⟩
      have hy := h (n + 1) (Nat.le_refl _)
      obtain ⟨i, j, hij, hj, hg⟩ := ih (fun i => if f (n + 1) < f i then f i - 1 else f i) (fun i hi => by
        have h1 := h i (by omega)
        have h2 := hne i hi
        show (if f (n + 1) < f i then f i - 1 else f i) < n
        split <;> omega)
      refine ⟨i, j, hij, by omega, ?_⟩
      have h1 := hne i (by omega)
      have h2 := hne j hj
      have hg : (if f (n + 1) < f i then f i - 1 else f i) = (if f (n + 1) < f j then f j - 1 else f j) := hg
      split at hg <;> split at hg <;> omega
def it (N : Nat → Nat) : Nat → Nat → Nat
  | 0, k => k
  | i + 1, k => N (it N i k)
theorem it_add (N : Nat → Nat) (k : Nat) : ∀ a b, it N (a + b) k = it N a (it N b k) := by
  intro a b
  induction a with
  | zero => rw [Nat.zero_add]; rfl
  | succ a ih =>
    rw [Nat.succ_add]
    show N (it N (a + b) k) = N (it N a (it N b k))
    rw [ih]
theorem it_lt {c : Nat} {S : ow_NP} (h : vn c S) {k : Nat} (hk : k < 2 * c) : ∀ i, it S.1 i k < 2 * c := by
  intro i
  induction i with
  | zero => exact hk
  | succ i ih => exact (h _ ih).1
theorem it_inj {c : Nat} {S : ow_NP} (h : vn c S) {a b : Nat} (ha : a < 2 * c) (hb : b < 2 * c) : ∀ i, it S.1 i a = it S.1 i b → a = b := by
  intro i
  induction i with
  | zero => intro e; exact e
  | succ i ih => intro e; exact ih (vn_inj h (it_lt h ha i) (it_lt h hb i) e)
/-- m is the length of the ring of f -/
def ring_len (N : Nat → Nat) (f m : Nat) : Prop := 1 ≤ m ∧ it N m f = f ∧ ∀ i, 1 ≤ i → i < m → ¬ it N i f = f
theorem ring_ex {c : Nat} {S : ow_NP} (h : vn c S) {f : Nat} (hf : f < 2 * c) : ∃ m, m ≤ 2 * c ∧ ring_len S.1 f m := by
  obtain ⟨i, j, hij, hj, he⟩ := ow_pig (2 * c) (fun i => it S.1 i f) (fun i _ => it_lt h hf i)
  have he : it S.1 i f = it S.1 j f := he
  have hp : it S.1 (j - i) f = f := by
    have h1 : it S.1 j f = it S.1 i (it S.1 (j - i) f) := by rw [← it_add]; congr 1; omega
    exact it_inj h (it_lt h hf _) hf i (by rw [← h1, ← he])
  obtain ⟨m, hm, hl⟩ := pk_least (fun m => 1 ≤ m ∧ it S.1 m f = f) ⟨j - i, by omega, hp⟩
  have hmj : m ≤ j - i := by
    rcases Nat.lt_or_ge (j - i) m with q | q
    · exact absurd ⟨by omega, hp⟩ (hl (j - i) q)
    · exact q
  exact ⟨m, by omega, hm.1, hm.2, fun i h1 h2 e => hl i h2 ⟨h1, e⟩⟩
theorem ring_dist {c : Nat} {S : ow_NP} (h : vn c S) {f m : Nat} (hf : f < 2 * c) (hm : ring_len S.1 f m) {i j : Nat} (hij : i < j) (hj : j < m) : ¬ it S.1 i f = it S.1 j f := by
  intro e
  have h1 : it S.1 j f = it S.1 i (it S.1 (j - i) f) := by rw [← it_add]; congr 1; omega
  have hp : it S.1 (j - i) f = f := it_inj h (it_lt h hf _) hf i (by rw [← h1, ← e])
  exact hm.2.2 (j - i) (by omega) (by omega) hp
/-! bits of the visits seen -/
def gn (g k : Nat) : Prop := g / 2 ^ k % 2 = 1
theorem gn_test (g k : Nat) : gn g k ↔ g.testBit k = true := by
  unfold gn
  rw [Nat.testBit_eq_decide_div_mod_eq, decide_eq_true_eq]
theorem gn_or (g v k : Nat) : gn (g ||| 2 ^ v) k ↔ gn g k ∨ k = v := by
  rw [gn_test, gn_test, Nat.testBit_or, Nat.testBit_two_pow, Bool.or_eq_true, decide_eq_true_eq]
  constructor
  · rintro (h | h)
    · exact Or.inl h
    · exact Or.inr h.symm
  · rintro (h | h)
    · exact Or.inl h
    · exact Or.inr h.symm
theorem gn_not {g k : Nat} : ¬ gn g k ↔ g / 2 ^ k % 2 = 0 := by
  unfold gn
  have := Nat.mod_two_eq_zero_or_one (g / 2 ^ k)
  omega
/-! one ring walked -/
theorem tf_ring_gn {c : Nat} {S : ow_NP} {G : Nat → Int32} (h : vn c S) {f m : Nat} (hf : f < 2 * c) (hm : ring_len S.1 f m) : ∀ (d i : Nat) (P : tf_P), i < m → m ≤ i + d → (tf_ring G S.1 f d (it S.1 i f) P).len = P.len + (m - i) ∧ ∀ k, gn (tf_ring G S.1 f d (it S.1 i f) P).gone k ↔ gn P.gone k ∨ ∃ j, i ≤ j ∧ j < m ∧ k = it S.1 j f := by
  intro d
  induction d with
  | zero => intro i P h1 h2; omega
  | succ d ih =>
    intro i P h1 h2
    rw [tf_ring]
    have hvg : ∀ k, gn (tf_vis G P (it S.1 i f)).gone k ↔ gn P.gone k ∨ k = it S.1 i f := fun k => gn_or _ _ _
    have hvl : (tf_vis G P (it S.1 i f)).len = P.len + 1 := rfl
    split
    · rename_i e
      have hmi : m = i + 1 := by
        rcases Nat.lt_or_ge (i + 1) m with q | q
        · exact absurd e (hm.2.2 (i + 1) (by omega) q)
        · omega
      refine ⟨by rw [hvl]; omega, fun k => ?_⟩
      rw [hvg]
      constructor
      · rintro (q | q)
        · exact Or.inl q
        · exact Or.inr ⟨i, Nat.le_refl i, h1, q⟩
      · rintro (q | ⟨j, h3, h4, q⟩)
        · exact Or.inl q
        · have : j = i := by omega
          rw [this] at q
          exact Or.inr q
    · rename_i e
      have hi1 : i + 1 < m := by
        rcases Nat.lt_or_ge (i + 1) m with q | q
        · exact q
        · have hmi : m = i + 1 := by omega
          have := hm.2.1
          rw [hmi] at this
          exact absurd this e
      obtain ⟨a1, a2⟩ := ih (i + 1) (tf_vis G P (it S.1 i f)) hi1 (by omega)
      have hN : S.1 (it S.1 i f) = it S.1 (i + 1) f := rfl
      rw [hN]
      refine ⟨by rw [a1, hvl]; omega, fun k => ?_⟩
      rw [a2, hvg]
      constructor
      · rintro ((q | q) | ⟨j, h3, h4, q⟩)
        · exact Or.inl q
        · exact Or.inr ⟨i, Nat.le_refl i, h1, q⟩
        · exact Or.inr ⟨j, by omega, h4, q⟩
      · rintro (q | ⟨j, h3, h4, q⟩)
        · exact Or.inl (Or.inl q)
        · rcases Nat.lt_or_ge i j with r | r
          · exact Or.inr ⟨j, r, h4, q⟩
          · have : j = i := by omega
            rw [this] at q
            exact Or.inl (Or.inr q)
