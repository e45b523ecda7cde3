/-! rel3 kept by braid, feed, end, alike, drop -/
section XR4
variable {X : (Nat → Nat → Int32) → Prop} {z y : ow_MS} {vl : Nat → Nat} {x x' : Int32}
theorem c_braid (h : rel3 X z y) : Te (fun K => qe_X13_braid K x z) (fun rr => Te (fun K => ce_X11_braid vl K 0 x y) (fun rc => rel3 X rr.2 rc.2.2 ∧ ansI [(1, 2), (2, 3)] rr rc)) := w_monoE (b_braid (r3_g h) h.2.2.2.2.1 h.2.2.2.1 h.2.2.1) (fun rr hr => w_monoE hr (fun rc ⟨k1, k0, k2, k3, k4, k5, k6⟩ => ⟨rel3_o k4 k5 (fun g hg => by
  rcases hg with hg | hg
  · exact Or.inl hg
  · exact Or.inr (Or.inr hg)) (fun g hg => by unfold bdP at hg; omega) k2 k0 k1 k3 h, k6⟩))
theorem c_feed {a b c d e : Int32} (h : rel3 X z y) : Te (fun K => qe_X13_feed K a b c d e z) (fun rr => Te (fun K => ce_X11_feed vl K 0 a b c d e y) (fun rc => rel3 X rr.2 rc.2.2 ∧ ansI [(1, 3)] rr rc)) := w_monoE (b_feed (r3_g h) h.2.2.1) (fun rr hr => w_monoE hr (fun rc ⟨k0, k2, k4, k5, k6⟩ => ⟨rel3_o k4 k5 (fun g hg => by
  rcases hg with hg | hg
  · exact Or.inl hg
  · exact Or.inr (by omega)) (fun g hg => by unfold tpP at hg; omega) k2 k0 (relB_k k4 k5 ⟨fun h9 => by unfold rPs rSc at h9; omega, fun h9 => by unfold rPs rSc at h9; omega, fun h9 => by unfold rPs rSc at h9; omega⟩ ⟨fun h9 => by unfold tpP at h9; omega, fun h9 => by unfold tpP at h9; omega, fun h9 => by unfold tpP at h9; omega⟩ h.2.2.2.1) (brC_fr k5 ⟨fun h9 => by unfold tpP at h9; omega, fun h9 => by unfold tpP at h9; omega, fun h9 => by unfold tpP at h9; omega⟩ h.2.2.2.2.1) h, k6⟩))
theorem c_end (h : rel3 X z y) : Te (fun K => qe_X13_end K x z) (fun rr => Te (fun K => ce_X11_end vl K 0 x y) (fun rc => rel3 X rr rc.2 ∧ (rr.1 1 = 0 ∧ rc.1 = 0 ∨ rr.1 1 = nI 1 ∧ rc.1 = 2))) := w_monoE (b_end (r3_g h) h.2.2.1) (fun rr hr => w_monoE hr (fun rc ⟨k0, k2, k4, k5, k6⟩ => ⟨rel3_o k4 k5 (fun g hg => by
  rcases hg with hg | hg
  · exact Or.inl hg
  · exact Or.inr (by omega)) (fun g hg => by omega) k2 k0 (relB_k k4 k5 ⟨fun h9 => by unfold rPs rSc at h9; omega, fun h9 => by unfold rPs rSc at h9; omega, fun h9 => by unfold rPs rSc at h9; omega⟩ ⟨fun h9 => by omega, fun h9 => by omega, fun h9 => by omega⟩ h.2.2.2.1) (brC_fr k5 ⟨fun h9 => by omega, fun h9 => by omega, fun h9 => by omega⟩ h.2.2.2.2.1) h, k6⟩))
theorem both_Z {rr rc : Int32 × ow_MS} (h : rel3 X z y) (hb : bothZ X z y rr rc) : rel3 X rr.2 rc.2 ∧ rr.2.1 1 = 0 ∧ rr.1 = rc.1 := by
  obtain ⟨⟨St, b1⟩, b2, b3, b4, b5⟩ := hb
  exact ⟨⟨⟨St, b1⟩, gM_u3 b1.2.1 b3 h.2.1, rel2_k b2 b3 (fun g hg => hg) (fun g hg => by unfold uP at hg; omega) h.2.2⟩, b4, b5⟩
end XR4
