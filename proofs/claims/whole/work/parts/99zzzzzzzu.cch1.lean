/-! the class: chain -/
def cmG (g : Nat) : Prop := 43002 ≤ g ∧ g ≤ 43004 ∨ 43007 ≤ g ∧ g ≤ 43020 ∨ cP 44000 g
theorem dg_c : ∀ d : Fin 30, ((18 : Int32) < nI d.val - 10 ↔ d.val = 29) ∧ nI d.val - 10 + 1 = nI (d.val + 1) - 10 := by decide +kernel
theorem cmG_c {g : Nat} (h : cP 44000 g) : cmG g := Or.inr (Or.inr h)
theorem chP_fr {P : Nat → Prop} {y y1 : ow_MS} (hf : fr P y y1) (hP : ∀ g, P g → g < 45000) (h : chP y) : chP y1 := fun i k hi hk => by
  rw [(hf (45001 + i) (fun h9 => by have := hP _ h9; omega)).2.1]
  exact h i k hi hk
section CH
variable {vl : Nat → Nat} {y : ow_MS} {W C : Nat}
def chG (g : Nat) : Prop := 4001 ≤ g ∧ g ≤ 4011 ∨ cmG g
theorem gM_ch {y1 y2 : ow_MS} (hN : gN y1) (hf : fr (cL 4000) y y1) (hf2 : fr (fun g => cQ 4000 g ∨ cmG g) y1 y2) (h44 : ∃ T, cAt y2 44000 T ∧ ow_b24 T.2.2.1) (h : gM y) : gM y2 := by
  refine ⟨⟨dgC_fr hf2 (fun g g1 g2 h9 => by unfold cQ cmG cP at h9; omega) hN.1, fun h' hh' => ?_, kdC_fr hf2 (fun g hg => by unfold cQ cmG cP at hg; omega) hN.2.2⟩, tbs_fr (fr_tr (fr_mono (fun g hg => Or.inl hg) hf) (fr_mono (fun g hg => Or.inr hg) hf2)) (fun g (hg : cL 4000 g ∨ cQ 4000 g ∨ cmG g) => by unfold cL cQ cmG cP at hg; omega) h.2⟩
  have key : ∀ a, a ∈ nHL → a ≤ 40000 ∨ 44000 = a := by decide
  rcases key h' hh' with h9 | h9
  · obtain ⟨T, t1, t2⟩ := hN.2.1 h' hh'
    have key2 : ∀ a, a ∈ nHL → a = 4000 ∨ 4012 ≤ a := by decide
    have := key2 h' hh'
    exact ⟨T, cAt_fr hf2 (fun g hg h8 => by unfold cP at hg; unfold cQ cmG cP at h8; omega) t1, t2⟩
  · rw [← h9]
    exact h44
end CH
