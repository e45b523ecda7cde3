/-! normal forms: simple braids as the class packs them, checked -/
def pkS (n k : Nat) : Nat → Int32
  | 0 => 0
  | j + 1 => pkS n k j ||| (nI (enG n k j) <<< (((4 * nI j) : Int32) &&& 31))
def pkG (n k : Nat) : Int32 := pkS n k n
def ivG (n k : Nat) : Int32 := foV (pkG n k) n
def gQk (n k : Nat) : Bool := decide (foV (ivG n k) n = pkG n k) && decide (foU (pkG n k) n n = pkG n (ovG n k)) && (decide (pkG n k = foE n) == decide (k = 0)) && (decide (pkG n k = foD n n) == decide (k = gNN n - 1))
def gQa (n k a : Nat) : Bool := !decide (a + 1 < n) || ((decide (foJ (ivG n k) (nI a) < foJ (ivG n k) (nI a + 1)) == decide (moG n k a ≠ 0)) && (decide (foJ (pkG n k) (nI a + 1) < foJ (pkG n k) (nI a)) == decide (ddG n k (moG n 0 a - 1) = 0)) && (decide (moG n k a = 0) || decide (foX (ivG n k) (nI a) = ivG n (moG n k a - 1))) && (decide (ddG n k (moG n 0 a - 1) ≠ 0) || decide (foX (pkG n k) (nI a) = pkG n (ddG n (moG n 0 a - 1) k))))
def gQl (n a : Nat) : Bool := !decide (a + 1 < n) || (decide (foX (foE n) (nI a) = pkG n (moG n 0 a - 1)) && decide (foV (foX (foV (foD n n) n) (nI a)) n = pkG n (ahG n (moG n 0 a - 1))) && decide (ovG n (moG n 0 a - 1) = moG n 0 (n - 2 - a) - 1))
def gQj (n k j : Nat) : Bool := !decide (j < n) || decide (foJ (pkG n k) (nI j) = nI (enG n k j))
def gQi (n k l : Nat) : Bool := decide (pkG n k = pkG n l) == decide (k = l)
theorem qk_2 : ∀ k : Fin 2, gQk 2 k.val = true := by decide +kernel
theorem qa_2 : ∀ k : Fin 2, ∀ a : Fin 4, gQa 2 k.val a.val = true := by decide +kernel
theorem ql_2 : ∀ a : Fin 4, gQl 2 a.val = true := by decide +kernel
theorem qj_2 : ∀ k : Fin 2, ∀ j : Fin 5, gQj 2 k.val j.val = true := by decide +kernel
theorem qi_2 : ∀ k : Fin 2, ∀ l : Fin 2, gQi 2 k.val l.val = true := by decide +kernel
theorem qk_3 : ∀ k : Fin 6, gQk 3 k.val = true := by decide +kernel
theorem qa_3 : ∀ k : Fin 6, ∀ a : Fin 4, gQa 3 k.val a.val = true := by decide +kernel
theorem ql_3 : ∀ a : Fin 4, gQl 3 a.val = true := by decide +kernel
theorem qj_3 : ∀ k : Fin 6, ∀ j : Fin 5, gQj 3 k.val j.val = true := by decide +kernel
theorem qi_3 : ∀ k : Fin 6, ∀ l : Fin 6, gQi 3 k.val l.val = true := by decide +kernel
theorem qk_4 : ∀ k : Fin 24, gQk 4 k.val = true := by decide +kernel
theorem qa_4 : ∀ k : Fin 24, ∀ a : Fin 4, gQa 4 k.val a.val = true := by decide +kernel
theorem ql_4 : ∀ a : Fin 4, gQl 4 a.val = true := by decide +kernel
theorem qj_4 : ∀ k : Fin 24, ∀ j : Fin 5, gQj 4 k.val j.val = true := by decide +kernel
theorem qi_4 : ∀ k : Fin 24, ∀ l : Fin 24, gQi 4 k.val l.val = true := by decide +kernel
theorem qk_5 : ∀ k : Fin 120, gQk 5 k.val = true := by decide +kernel
theorem qa_5 : ∀ k : Fin 120, ∀ a : Fin 4, gQa 5 k.val a.val = true := by decide +kernel
theorem ql_5 : ∀ a : Fin 4, gQl 5 a.val = true := by decide +kernel
theorem qj_5 : ∀ k : Fin 120, ∀ j : Fin 5, gQj 5 k.val j.val = true := by decide +kernel
theorem qi_5 : ∀ k : Fin 120, ∀ l : Fin 120, gQi 5 k.val l.val = true := by decide +kernel
section NF6
variable {n : Nat}
theorem qk_n (h2 : 2 ≤ n) (h5 : n ≤ 5) {k : Nat} (hk : k < gNN n) : gQk n k = true := by
  rcases nn_c h2 h5 with rfl | rfl | rfl | rfl
  · exact qk_2 ⟨k, hk⟩
  · exact qk_3 ⟨k, hk⟩
  · exact qk_4 ⟨k, hk⟩
  · exact qk_5 ⟨k, hk⟩
theorem qa_n (h2 : 2 ≤ n) (h5 : n ≤ 5) {k a : Nat} (hk : k < gNN n) (ha : a < 4) : gQa n k a = true := by
  rcases nn_c h2 h5 with rfl | rfl | rfl | rfl
  · exact qa_2 ⟨k, hk⟩ ⟨a, ha⟩
  · exact qa_3 ⟨k, hk⟩ ⟨a, ha⟩
  · exact qa_4 ⟨k, hk⟩ ⟨a, ha⟩
  · exact qa_5 ⟨k, hk⟩ ⟨a, ha⟩
theorem ql_n (h2 : 2 ≤ n) (h5 : n ≤ 5) {a : Nat} (ha : a < 4) : gQl n a = true := by
  rcases nn_c h2 h5 with rfl | rfl | rfl | rfl
  · exact ql_2 ⟨a, ha⟩
  · exact ql_3 ⟨a, ha⟩
  · exact ql_4 ⟨a, ha⟩
  · exact ql_5 ⟨a, ha⟩
theorem qj_n (h2 : 2 ≤ n) (h5 : n ≤ 5) {k j : Nat} (hk : k < gNN n) (hj : j < 5) : gQj n k j = true := by
  rcases nn_c h2 h5 with rfl | rfl | rfl | rfl
  · exact qj_2 ⟨k, hk⟩ ⟨j, hj⟩
  · exact qj_3 ⟨k, hk⟩ ⟨j, hj⟩
  · exact qj_4 ⟨k, hk⟩ ⟨j, hj⟩
  · exact qj_5 ⟨k, hk⟩ ⟨j, hj⟩
theorem qi_n (h2 : 2 ≤ n) (h5 : n ≤ 5) {k l : Nat} (hk : k < gNN n) (hl : l < gNN n) : gQi n k l = true := by
  rcases nn_c h2 h5 with rfl | rfl | rfl | rfl
  · exact qi_2 ⟨k, hk⟩ ⟨l, hl⟩
  · exact qi_3 ⟨k, hk⟩ ⟨l, hl⟩
  · exact qi_4 ⟨k, hk⟩ ⟨l, hl⟩
  · exact qi_5 ⟨k, hk⟩ ⟨l, hl⟩
theorem d_qk (h2 : 2 ≤ n) (h5 : n ≤ 5) {k : Nat} (hk : k < gNN n) : foV (ivG n k) n = pkG n k ∧ foU (pkG n k) n n = pkG n (ovG n k) ∧ (pkG n k = foE n ↔ k = 0) ∧ (pkG n k = foD n n ↔ k = gNN n - 1) := by
  have := qk_n h2 h5 hk
  unfold gQk at this
  simp only [Bool.and_eq_true, decide_eq_true_eq, beq_iff_eq, decide_eq_decide] at this
  exact ⟨this.1.1.1, this.1.1.2, this.1.2, this.2⟩
theorem d_qa (h2 : 2 ≤ n) (h5 : n ≤ 5) {k a : Nat} (hk : k < gNN n) (ha : a + 1 < n) : (foJ (ivG n k) (nI a) < foJ (ivG n k) (nI a + 1) ↔ moG n k a ≠ 0) ∧ (foJ (pkG n k) (nI a + 1) < foJ (pkG n k) (nI a) ↔ ddG n k (moG n 0 a - 1) = 0) ∧ (moG n k a ≠ 0 → foX (ivG n k) (nI a) = ivG n (moG n k a - 1)) ∧ (ddG n k (moG n 0 a - 1) = 0 → foX (pkG n k) (nI a) = pkG n (ddG n (moG n 0 a - 1) k)) := by
  have := qa_n h2 h5 hk (a := a) (by omega)
  unfold gQa at this
  rw [decide_eq_true ha] at this
  simp only [Bool.not_true, Bool.false_or, Bool.and_eq_true, Bool.or_eq_true, decide_eq_true_eq, beq_iff_eq, decide_eq_decide] at this
  obtain ⟨⟨⟨a1, a2⟩, a3⟩, a4⟩ := this
  exact ⟨a1, a2, fun h => a3.resolve_left h, fun h => a4.resolve_left (fun h9 => h9 h)⟩
theorem d_ql (h2 : 2 ≤ n) (h5 : n ≤ 5) {a : Nat} (ha : a + 1 < n) : foX (foE n) (nI a) = pkG n (moG n 0 a - 1) ∧ foV (foX (foV (foD n n) n) (nI a)) n = pkG n (ahG n (moG n 0 a - 1)) ∧ ovG n (moG n 0 a - 1) = moG n 0 (n - 2 - a) - 1 := by
  have := ql_n h2 h5 (a := a) (by omega)
  unfold gQl at this
  rw [decide_eq_true ha] at this
  simp only [Bool.not_true, Bool.false_or, Bool.and_eq_true, decide_eq_true_eq] at this
  exact ⟨this.1.1, this.1.2, this.2⟩
theorem d_qj (h2 : 2 ≤ n) (h5 : n ≤ 5) {k j : Nat} (hk : k < gNN n) (hj : j < n) : foJ (pkG n k) (nI j) = nI (enG n k j) := by
  have := qj_n h2 h5 hk (j := j) (by omega)
  unfold gQj at this
  rw [decide_eq_true hj] at this
  simp only [Bool.not_true, Bool.false_or, decide_eq_true_eq] at this
  exact this
theorem d_qi (h2 : 2 ≤ n) (h5 : n ≤ 5) {k l : Nat} (hk : k < gNN n) (hl : l < gNN n) (e : pkG n k = pkG n l) : k = l := by
  have := qi_n h2 h5 hk hl
  unfold gQi at this
  simp only [beq_iff_eq, decide_eq_decide] at this
  exact this.mp e
end NF6
