/-! simple braids: products, residues, reversed ones, checked -/
def gRV2 : Nat := 0x80
def gRV3 : Nat := 0x2830808080
def gRV4 : Nat := 0x2e50a962048793222868b183848710102860608080
def gRV5 : Nat := 0xefcfa75edaf6f0d5bb8ece5bee60cb773e2bf930e8c76f369bd329cdaf42454b32a4d69f2ec5a9d4a8d58eda0b96b0a2b77ae9fb164fa233811a1b470ede2056b90aa5eb0fa34a993a450756b05279117366079a3858811244ca15323860d12285850e184040608080
def gRV (n : Nat) : Nat := if n = 5 then gRV5 else if n = 4 then gRV4 else if n = 3 then gRV3 else gRV2
def rvT (n k : Nat) : Nat := dgN (gRV n) 7 k
/-- the product of two simple ones, plus 1; 0 if it isn't simple -/
def muG (n p q : Nat) : Nat := evG n p (ltG n q)
def gPa (n p q : Nat) : Bool := decide (muG n p (ddG n p q) = muG n q (ddG n q p)) && decide (muG n p (ddG n p q) ≠ 0)
def gPb (n p q : Nat) : Bool := (decide (muG n p q = 0) == !decide (ddG n (ddG n p (gNN n - 1)) q = 0)) && (decide (muG n p q = 0) || decide (muG n (rvT n q) (rvT n p) = rvT n (muG n p q - 1) + 1)) && decide (ddG n (ovG n p) (ovG n q) = ovG n (ddG n p q))
def gPk (n k : Nat) : Bool := decide (rvT n k < gNN n) && decide (rvT n (rvT n k) = k) && decide (ovG n (ovG n k) = k) && decide (ddG n k k = 0) && decide (ddG n (gNN n - 1) k = 0)
theorem pa_2 : ∀ p : Fin 2, ∀ q : Fin 2, gPa 2 p.val q.val = true := by decide +kernel
theorem pb_2 : ∀ p : Fin 2, ∀ q : Fin 2, gPb 2 p.val q.val = true := by decide +kernel
theorem pk_29 : ∀ k : Fin 2, gPk 2 k.val = true := by decide +kernel
theorem pa_3 : ∀ p : Fin 6, ∀ q : Fin 6, gPa 3 p.val q.val = true := by decide +kernel
theorem pb_3 : ∀ p : Fin 6, ∀ q : Fin 6, gPb 3 p.val q.val = true := by decide +kernel
theorem pk_39 : ∀ k : Fin 6, gPk 3 k.val = true := by decide +kernel
theorem pa_4 : ∀ p : Fin 24, ∀ q : Fin 24, gPa 4 p.val q.val = true := by decide +kernel
theorem pb_4 : ∀ p : Fin 24, ∀ q : Fin 24, gPb 4 p.val q.val = true := by decide +kernel
theorem pk_49 : ∀ k : Fin 24, gPk 4 k.val = true := by decide +kernel
theorem pa_5 : ∀ p : Fin 120, ∀ q : Fin 120, gPa 5 p.val q.val = true := by decide +kernel
theorem pb_5 : ∀ p : Fin 120, ∀ q : Fin 120, gPb 5 p.val q.val = true := by decide +kernel
theorem pk_59 : ∀ k : Fin 120, gPk 5 k.val = true := by decide +kernel
section NF0
variable {n : Nat}
theorem pa_n (h2 : 2 ≤ n) (h5 : n ≤ 5) {p q : Nat} (hp : p < gNN n) (hq : q < gNN n) : gPa n p q = true := by
  rcases nn_c h2 h5 with rfl | rfl | rfl | rfl
  · exact pa_2 ⟨p, hp⟩ ⟨q, hq⟩
  · exact pa_3 ⟨p, hp⟩ ⟨q, hq⟩
  · exact pa_4 ⟨p, hp⟩ ⟨q, hq⟩
  · exact pa_5 ⟨p, hp⟩ ⟨q, hq⟩
theorem pb_n (h2 : 2 ≤ n) (h5 : n ≤ 5) {p q : Nat} (hp : p < gNN n) (hq : q < gNN n) : gPb n p q = true := by
  rcases nn_c h2 h5 with rfl | rfl | rfl | rfl
  · exact pb_2 ⟨p, hp⟩ ⟨q, hq⟩
  · exact pb_3 ⟨p, hp⟩ ⟨q, hq⟩
  · exact pb_4 ⟨p, hp⟩ ⟨q, hq⟩
  · exact pb_5 ⟨p, hp⟩ ⟨q, hq⟩
theorem pk_n9 (h2 : 2 ≤ n) (h5 : n ≤ 5) {k : Nat} (hk : k < gNN n) : gPk n k = true := by
  rcases nn_c h2 h5 with rfl | rfl | rfl | rfl
  · exact pk_29 ⟨k, hk⟩
  · exact pk_39 ⟨k, hk⟩
  · exact pk_49 ⟨k, hk⟩
  · exact pk_59 ⟨k, hk⟩
theorem d_pa (h2 : 2 ≤ n) (h5 : n ≤ 5) {p q : Nat} (hp : p < gNN n) (hq : q < gNN n) : muG n p (ddG n p q) = muG n q (ddG n q p) ∧ muG n p (ddG n p q) ≠ 0 := by
  have := pa_n h2 h5 hp hq
  unfold gPa at this
  simp only [Bool.and_eq_true, decide_eq_true_eq] at this
  exact this
theorem d_pb (h2 : 2 ≤ n) (h5 : n ≤ 5) {p q : Nat} (hp : p < gNN n) (hq : q < gNN n) : (muG n p q ≠ 0 ↔ ddG n (ddG n p (gNN n - 1)) q = 0) ∧ (muG n p q ≠ 0 → muG n (rvT n q) (rvT n p) = rvT n (muG n p q - 1) + 1) ∧ ddG n (ovG n p) (ovG n q) = ovG n (ddG n p q) := by
  have := pb_n h2 h5 hp hq
  unfold gPb at this
  simp only [Bool.and_eq_true, Bool.or_eq_true, decide_eq_true_eq, beq_iff_eq] at this
  obtain ⟨⟨a1, a2⟩, a3⟩ := this
  refine ⟨?_, fun h => a2.resolve_left h, a3⟩
  by_cases e1 : muG n p q = 0
  · rw [decide_eq_true e1] at a1
    constructor
    · intro h
      exact absurd e1 h
    · intro h
      rw [decide_eq_true h] at a1
      exact absurd a1 (by decide)
  · rw [decide_eq_false e1] at a1
    refine ⟨fun _ => ?_, fun _ => e1⟩
    by_cases e2 : ddG n (ddG n p (gNN n - 1)) q = 0
    · exact e2
    · rw [decide_eq_false e2] at a1
      exact absurd a1 (by decide)
theorem d_pk (h2 : 2 ≤ n) (h5 : n ≤ 5) {k : Nat} (hk : k < gNN n) : rvT n k < gNN n ∧ rvT n (rvT n k) = k ∧ ovG n (ovG n k) = k ∧ ddG n k k = 0 ∧ ddG n (gNN n - 1) k = 0 := by
  have := pk_n9 h2 h5 hk
  unfold gPk at this
  simp only [Bool.and_eq_true, decide_eq_true_eq] at this
  obtain ⟨⟨⟨⟨a1, a2⟩, a3⟩, a4⟩, a5⟩ := this
  exact ⟨a1, a2, a3, a4, a5⟩
end NF0
