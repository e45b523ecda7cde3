/-! what a call leaves alone stays related -/
section XFR
variable {P Q : Nat → Prop} {z z1 y y1 : ow_MS} {Ms : List (rn_L × (Nat → Bool))}
theorem relT_k (hz : fr P z z1) (hy : fr Q y y1) (h1 : ¬ P 10 ∧ ¬ P 11) (h2 : ¬ Q 11001 ∧ ¬ Q 11002) (h : relT z y) : relT z1 y1 := by
  obtain ⟨t, t1, t2, t3, t4⟩ := h
  exact ⟨t, t1, by rw [(hz 11 h1.2).1]; exact t2, by rw [(hy 11001 h2.1).1]; exact t3, fun k hk => by rw [(hz 10 h1.1).2.1, (hy 11002 h2.2).2.1]; exact t4 k hk⟩
theorem relB_k (hz : fr P z z1) (hy : fr Q y y1) (h1 : ¬ P 94 ∧ ¬ P 95 ∧ ¬ P 96) (h2 : ¬ Q 13 ∧ ¬ Q 14 ∧ ¬ Q 15) (h : relB z y) : relB z1 y1 := fun b hb => by
  rw [(hz 94 h1.1).2.1, (hz 95 h1.2.1).2.1, (hz 96 h1.2.2).2.1, (hy 13 h2.1).2.1, (hy 14 h2.2.1).2.1, (hy 15 h2.2.2).2.1]
  exact h b hb
theorem rlR_k {h h' n m : Nat} (hz : fr P z z1) (h1 : ¬ P h ∧ ¬ P h' ∧ ¬ P n) (hr : rlR h h' n m z Ms) : rlR h h' n m z1 Ms := by
  obtain ⟨r1, r2, r3⟩ := hr
  refine ⟨r1, by rw [(hz n h1.2.2).1]; exact r2, fun k A sg hC => ?_⟩
  obtain ⟨j, j1, j2, j3, j4⟩ := r3 k A sg hC
  exact ⟨j, j1, by rw [(hz h' h1.2.1).2.1]; exact j2, j3, rc_fr hz h1.1 j4.1, j4.2⟩
theorem rlC_k {g p : Nat} (hy : fr Q y y1) (h1 : ∀ q, cV g q → ¬ Q q) (hr : rlC g p y Ms) : rlC g p y1 Ms := by
  obtain ⟨Cs, os, r1, r2⟩ := hr
  exact ⟨Cs, os, tbO_fr hy h1 r1, r2⟩
/-- all that was related so far, besides the places -/
def rel2 (z y : ow_MS) : Prop := relT z y ∧ relB z y ∧ brC y ∧ (∃ Ms, rlR 20 21 22 2700 z Ms ∧ rlC 2000 1848 y Ms ∧ okM Ms) ∧ ∃ Ms, rlR 35 39 36 16 z Ms ∧ rlC 3000 12 y Ms ∧ okM Ms
theorem rel2_k (hz : fr P z z1) (hy : fr Q y y1) (h1 : ∀ g, P g → g = 1 ∨ g = 12 ∨ rSc g) (h2 : ∀ g, Q g → 1001 ≤ g ∧ g ≤ 1005 ∨ 4001 ≤ g ∧ g ≤ 11000 ∨ 11003 ≤ g) (h : rel2 z y) : rel2 z1 y1 := by
  obtain ⟨k1, k2, k3, ⟨Ms, k4, k5, k6⟩, Ns, k7, k8, k9⟩ := h
  have no : ∀ g, 13 ≤ g → g < 1000 → ¬ P g := fun g g1 g2 h9 => by
    have := h1 g h9
    unfold rSc at this
    omega
  have no2 : ∀ g, g < 1001 ∨ 1005 < g ∧ g < 4001 ∨ g = 11001 ∨ g = 11002 → ¬ Q g := fun g g1 h9 => by
    have := h2 g h9
    omega
  refine ⟨relT_k hz hy ⟨fun h9 => ?_, fun h9 => ?_⟩ ⟨no2 _ (by omega), no2 _ (by omega)⟩ k1, relB_k hz hy ⟨no _ (by omega) (by omega), no _ (by omega) (by omega), no _ (by omega) (by omega)⟩ ⟨no2 _ (by omega), no2 _ (by omega), no2 _ (by omega)⟩ k2, brC_fr hy ⟨no2 _ (by omega), no2 _ (by omega), no2 _ (by omega)⟩ k3, ⟨Ms, rlR_k hz ⟨no _ (by omega) (by omega), no _ (by omega) (by omega), no _ (by omega) (by omega)⟩ k4, rlC_k hy (fun q hq => no2 q (by unfold cV at hq; omega)) k5, k6⟩, Ns, rlR_k hz ⟨no _ (by omega) (by omega), no _ (by omega) (by omega), no _ (by omega) (by omega)⟩ k7, rlC_k hy (fun q hq => no2 q (by unfold cV at hq; omega)) k8, k9⟩
  · have := h1 10 h9
    unfold rSc at this
    omega
  · have := h1 11 h9
    unfold rSc at this
    omega
theorem gM_u3 (hN : gN y1) (hf : fr uP y y1) (h : gM y) : gM y1 := ⟨hN, tbs_fr hf (fun g hg => by unfold uP at hg; omega) h.2⟩
/-- the whole relation so far -/
def rel3 (X : (Nat → Nat → Int32) → Prop) (z y : ow_MS) : Prop := (∃ St, rel1 X z y St) ∧ gM y ∧ rel2 z y
theorem both_3 {X : (Nat → Nat → Int32) → Prop} {em : List (Nat × Nat)} {rr : Int32 × ow_MS} {rc : Nat × Int32 × ow_MS} (h : rel3 X z y) (hb : bothI em X z y rr rc) : rel3 X rr.2 rc.2.2 ∧ ansI em rr rc := by
  obtain ⟨⟨St, b1⟩, b2, b3, b4⟩ := hb
  exact ⟨⟨⟨St, b1⟩, gM_u3 b1.2.1 b3 h.2.1, rel2_k b2 b3 (fun g hg => hg) (fun g hg => by unfold uP at hg; omega) h.2.2⟩, b4⟩
end XFR
