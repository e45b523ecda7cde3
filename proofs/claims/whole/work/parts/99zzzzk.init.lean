/-! the reference's constructor: the state that it leaves -/
def XR (W : Nat → Nat → Int32) : Prop := XM W ∧ XG W ∧ ∀ f, f < 80 → ∃ i, i < 16 ∧ W 53 f = nI i
theorem XR_M {W : Nat → Nat → Int32} (h : XR W) : XM W := h.1
theorem XR_G {W : Nat → Nat → Int32} (h : XR W) : XG W := h.2.1
theorem XR_a : X53a XR := fun _ h => h.2.2
theorem XR_b : X53b XR := by
  intro W W' h he h53
  refine ⟨⟨fun m hm => ?_, fun m h1 h4 o p ho hp => ?_⟩, ?_, h53⟩
  · rw [he 73 (by omega)]
    exact h.1.1 m hm
  · rw [he 75 (by omega), he 76 (by omega)]
    exact h.1.2 m h1 h4 o p ho hp
  · unfold XG
    rw [he 97 (by omega), he 99 (by omega), he 100 (by omega), he 101 (by omega), he 102 (by omega), he 103 (by omega), he 104 (by omega), he 105 (by omega)]
    exact h.2.1
theorem rc_0 {z : ow_MS} {h : Nat} (h0 : z.2.1 h 0 = 0) : ∃ T, rc_At z h 0 T := ⟨[], Nat.zero_le _, fun t ht => by simp at ht, h0, fun k t hk => by simp at hk⟩
theorem gI_0 {m : ow_MS} (h1 : ∀ g, g < 73 → m.1 g = 0) (h2 : ∀ g i, ¬ (73 ≤ g ∧ g ≤ 76 ∨ 97 ≤ g ∧ g ≤ 107) → m.2.1 g i = 0) (hX : XR (fun g => m.2.1 (if g = 53 ∨ 73 ≤ g ∧ g ≤ 76 ∨ 97 ≤ g ∧ g ≤ 105 then g else 73))) : gI XR m := by
  refine ⟨⟨0, by omega, h1 11 (by omega)⟩, fun d _ => dRow_0 (h2 12 _ (by omega)), ⟨0, by omega, h1 22 (by omega), fun k hk => by omega, fun k hk => by omega⟩, ⟨0, by omega, h1 36 (by omega), fun k hk => by omega, fun k hk => by omega⟩, ⟨rc_0 (h2 43 _ (by omega)), rc_0 (h2 45 _ (by omega)), rc_0 (h2 50 _ (by omega)), rc_0 (h2 65 _ (by omega)), 0, by omega, h1 67 (by omega)⟩, fun b _ => ⟨0, 0, by omega, by omega, h2 96 _ (by omega), fun h => by omega⟩, hX⟩
theorem uz_c {g : Nat} (hg : g < 1000) : ([4, 5, 6, 7, 8, 9, 10, 11, 12, 13, 14, 15, 16, 17, 18] : List Nat).contains (g / 1000) = true ↔ False := by
  rw [Nat.div_eq_of_lt hg]
  decide
theorem uz_I {m : ow_MS} {g : Nat} (hg : g < 1000) : (usZ m [4, 5, 6, 7, 8, 9, 10, 11, 12, 13, 14, 15, 16, 17, 18]).2.1 g = m.2.1 g := if_neg (fun h => (uz_c hg).mp h)
/-- the reference's constructor has an answer, and leaves a state that keeps what the methods ask -/
theorem ref_init {z : ow_MS} (h1 : ∀ g, z.1 g = 0) (h2 : ∀ g i, g ≠ 73 → z.2.1 g i = 0) (h73 : ∀ m, m ≤ 4 → z.2.1 73 m = nI (thM m)) : ∃ m1 m2, (∃ b, ∀ K, b ≤ K → qe_X13_makeSimples_a K z = some m1) ∧ (∃ b, ∀ K, b ≤ K → qe_X13_makePermutations_a K m1 = some m2) ∧ gI XR (usZ m2 [4, 5, 6, 7, 8, 9, 10, 11, 12, 13, 14, 15, 16, 17, 18]) := by
  obtain ⟨m1, e1, hD, hf1⟩ := tp_makeSimples_a (z := z) (fun n _ => h2 100 _ (by omega))
  have pa : ∀ g, ¬ (97 ≤ g ∧ g ≤ 107) → ¬ pA g := fun g hg h => hg h
  have m1I : ∀ g i, ¬ (97 ≤ g ∧ g ≤ 107) → g ≠ 73 → m1.2.1 g i = 0 := fun g i hg h9 => by
    rw [(hf1 g (pa g hg)).2.1]
    exact h2 g i h9
  obtain ⟨m2, e2, hJ, hf2⟩ := tp_perms_a (z := m1) ⟨fun i => ⟨0, by omega, m1I 74 i (by omega) (by omega)⟩, fun m g1 g4 o p ho hp => ⟨⟨0, by omega, m1I 75 _ (by omega) (by omega)⟩, 0, by omega, m1I 76 _ (by omega) (by omega)⟩⟩
  have pp : ∀ g, ¬ (74 ≤ g ∧ g ≤ 76) → ¬ pmP g := fun g hg h => by unfold pmP at h; omega
  refine ⟨m1, m2, e1, e2, gI_0 (fun g hg => ?_) (fun g i hg => ?_) ⟨⟨fun m hm => ?_, fun m g1 g4 o p ho hp => ?_⟩, ?_, fun f _ => ⟨0, by omega, ?_⟩⟩⟩
  · show (if _ then 0 else m2.1 g) = 0
    split
    · rfl
    · rw [(hf2 g (pp g (by omega))).1, (hf1 g (pa g (by omega))).1]
      exact h1 g
  · show (if _ then (fun _ => 0) else m2.2.1 g) i = 0
    split
    · rfl
    · rw [(hf2 g (pp g (by omega))).2.1]
      exact m1I g i (by omega) (by omega)
  · show (usZ m2 _).2.1 73 m = _
    rw [uz_I (by omega), (hf2 73 (pp 73 (by omega))).2.1, (hf1 73 (pa 73 (by omega))).2.1]
    exact h73 m hm
  · show (∃ q, q < thM m ∧ (usZ m2 _).2.1 75 _ = nI q) ∧ ∃ q, q < thM m ∧ (usZ m2 _).2.1 76 _ = nI q
    rw [uz_I (by omega), uz_I (by omega)]
    exact hJ.2 m g1 g4 o p ho hp
  · show XG (usZ m2 _).2.1
    unfold XG
    rw [uz_I (by omega), uz_I (by omega), uz_I (by omega), uz_I (by omega), uz_I (by omega), uz_I (by omega), uz_I (by omega), uz_I (by omega), (hf2 97 (pp _ (by omega))).2.1, (hf2 99 (pp _ (by omega))).2.1, (hf2 100 (pp _ (by omega))).2.1, (hf2 101 (pp _ (by omega))).2.1, (hf2 102 (pp _ (by omega))).2.1, (hf2 103 (pp _ (by omega))).2.1, (hf2 104 (pp _ (by omega))).2.1, (hf2 105 (pp _ (by omega))).2.1]
    exact fun n a b => hD n a b
  · show (usZ m2 _).2.1 53 f = 0
    rw [uz_I (by omega), (hf2 53 (pp _ (by omega))).2.1]
    exact m1I 53 f (by omega) (by omega)
