/-! rel3 kept by moved, summand -/
section XR5
variable {X : (Nat → Nat → Int32) → Prop} {z y : ow_MS} {vl : Nat → Nat} {x : Int32}
theorem c_moved (h : rel3 X z y) : Te (fun K => qe_X13_moved K x z) (fun rr => Te (fun K => ce_X11_moved vl K 0 x y) (fun rc => rel3 X rr.2 rc.2.2 ∧ ansI [(1, 1), (2, 3)] rr rc)) := by
  obtain ⟨⟨St, k⟩, hM, h2⟩ := id h
  obtain ⟨Ms, m1, m2, m3⟩ := h2.2.2.2.1
  exact w_monoE (b_moved k hM m1 m2 m3) (fun rr hr => w_monoE hr (fun rc ⟨k1, k2, k3, k4, k5⟩ => ⟨⟨k1, k2, rel2_k k3 k4 (fun g hg => hg) (fun g hg => by unfold cW at hg; omega) h2⟩, k5⟩))
theorem c_summand (h : rel3 X z y) : Te (fun K => qe_X13_summand K x z) (fun rr => Te (fun K => ce_X11_summand vl K 0 x y) (fun rc => rel3 X rr.2 rc.2.2 ∧ ansI [(1, 1), (2, 3)] rr rc)) := by
  obtain ⟨⟨St, k⟩, hM, h2⟩ := id h
  obtain ⟨Ms, m1, m2, m3⟩ := h2.2.2.2.2
  exact w_monoE (b_summand k hM m1 m2 m3) (fun rr hr => w_monoE hr (fun rc ⟨k1, k2, k3, k4, k5⟩ => ⟨⟨k1, k2, rel2_k k3 k4 (fun g hg => hg) (fun g hg => by unfold cW at hg; omega) h2⟩, k5⟩))
end XR5
