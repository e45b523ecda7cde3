/-! cover: minors, and what divides them all -/
/-- the minor of rows f, columns g -/
def mnD9 (B : Nat → Nat → Int) (k : Nat) (f g : Nat → Nat) : Int := dtD9 k (fun a b => B (f a) (g b))
/-- d divides all minors of size k of the first R rows and n columns -/
def dvD9 (R n : Nat) (B : Nat → Nat → Int) (k : Nat) (d : Int) : Prop := ∀ f g : Nat → Nat, (∀ a, a < k → f a < R) → (∀ a, a < k → g a < n) → d ∣ mnD9 B k f g
section XCV2
variable {R n : Nat} {B : Nat → Nat → Int}
theorem mn_rep {k : Nat} {f g : Nat → Nat} {a c : Nat} (ha : a < k) (hc : c < k) (hne : a ≠ c) (e : f a = f c) : mnD9 B k f g = 0 := dt_eq2 ha hc hne (fun b _ => by
  show B (f a) (g b) = B (f c) (g b)
  rw [e])
/-- a multiple of row t added to row r -/
theorem dv_row {r t : Nat} (ht : t < R) (hne : r ≠ t) (q : Int) {k : Nat} {d : Int} (h : dvD9 R n B k d) : dvD9 R n (rwD9 B r (fun b => B r b + q * B t b)) k d := by
  intro f g hf hg
  by_cases hex : ∃ a, a < k ∧ f a = r
  · obtain ⟨a, ha, ea⟩ := hex
    by_cases hrep : ∃ c, c < k ∧ c ≠ a ∧ f c = r
    · obtain ⟨c, hc, hca, ec⟩ := hrep
      rw [mn_rep (B := rwD9 B r (fun b => B r b + q * B t b)) ha hc (fun h9 => hca h9.symm) (by rw [ea, ec])]
      exact Int.dvd_zero d
    · have e1 : mnD9 (rwD9 B r (fun b => B r b + q * B t b)) k f g = dtD9 k (rwD9 (fun a b => B (f a) (g b)) a (fun b => 1 * B r (g b) + q * B t (g b))) := dt_cg k (fun c b hc hb => by
        show rwD9 B r (fun b => B r b + q * B t b) (f c) (g b) = rwD9 (fun a b => B (f a) (g b)) a (fun b => 1 * B r (g b) + q * B t (g b)) c b
        unfold rwD9
        by_cases h9 : c = a
        · rw [h9, if_pos ea, if_pos rfl]
          dsimp only
          rw [Int.one_mul]
        · rw [if_neg (fun h8 => hrep ⟨c, hc, h9, h8⟩), if_neg h9])
      rw [e1, dt_lin k a _ (fun b => B r (g b)) (fun b => B t (g b)) 1 q ha]
      refine Int.dvd_add ?_ ?_
      · rw [Int.one_mul]
        have := h f g hf hg
        have e2 : rwD9 (fun a b => B (f a) (g b)) a (fun b => B r (g b)) = fun a b => B (f a) (g b) := by
          funext c b
          unfold rwD9
          by_cases h9 : c = a
          · rw [if_pos h9, h9, ea]
          · rw [if_neg h9]
        rw [e2]
        exact this
      · have := h (fun c => if c = a then t else f c) g (fun c hc => by
          split
          · exact ht
          · exact hf c hc) hg
        have e2 : rwD9 (fun a b => B (f a) (g b)) a (fun b => B t (g b)) = fun c b => B ((fun c => if c = a then t else f c) c) (g b) := by
          funext c b
          unfold rwD9
          dsimp only
          by_cases h9 : c = a
          · rw [if_pos h9, if_pos h9]
          · rw [if_neg h9, if_neg h9]
        rw [e2]
        exact Int.dvd_trans this (Int.dvd_mul_left q _)
  · have e1 : mnD9 (rwD9 B r (fun b => B r b + q * B t b)) k f g = mnD9 B k f g := dt_cg k (fun c b hc _ => by
      show rwD9 B r (fun b => B r b + q * B t b) (f c) (g b) = B (f c) (g b)
      exact if_neg (fun h9 => hex ⟨c, hc, h9⟩))
    rw [e1]
    exact h f g hf hg
/-- rows in another order -/
theorem dv_perm {σ : Nat → Nat} (hσ : ∀ a, a < R → σ a < R) {k : Nat} {d : Int} (h : dvD9 R n B k d) : dvD9 R n (fun a b => B (σ a) b) k d := fun f g hf hg => h (fun a => σ (f a)) g (fun a ha => hσ _ (hf a ha)) hg
/-- columns in another order -/
theorem dv_permC {σ : Nat → Nat} (hσ : ∀ a, a < n → σ a < n) {k : Nat} {d : Int} (h : dvD9 R n B k d) : dvD9 R n (fun a b => B a (σ b)) k d := fun f g hf hg => h f (fun a => σ (g a)) hf (fun a ha => hσ _ (hg a ha))
end XCV2
