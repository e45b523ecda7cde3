/-! the states that both constructors leave are related -/
/-- all that the class's calls ask of its state, besides what is related -/
def CI (vl : Nat → Nat) (y : ow_MS) : Prop := knC y ∧ jnC y ∧ bnC y ∧ mpC y ∧ stP y ∧ tbP y ∧ chP y ∧ ∃ W C, vI vl W C
/-- the whole relation -/
def REL (S : ow_LwS) : Prop := rel3 XR S.2.2 S.2.1 ∧ CI S.1 S.2.1 ∧ jnR S.2.2
def spc (g : Nat) : Prop := 39001 ≤ g ∧ g < 39025 ∨ g = 41006 ∨ g = 41007 ∨ g = 43005 ∨ 45001 ≤ g ∧ g < 45012
theorem bl8_i (b : Nat) : bl8.contains b = true ↔ 24 ≤ b ∧ b ≤ 40 := by
  unfold bl8
  simp only [List.contains_cons, List.contains_nil, Bool.or_false, Bool.or_eq_true, beq_iff_eq]
  omega
theorem bl0_i (b : Nat) : bl0.contains b = true ↔ 41 ≤ b ∧ b ≤ 42 := by
  unfold bl0
  simp only [List.contains_cons, List.contains_nil, Bool.or_false, Bool.or_eq_true, beq_iff_eq]
  omega
theorem bl1_i (b : Nat) : bl1.contains b = true ↔ 43 ≤ b ∧ b ≤ 45 := by
  unfold bl1
  simp only [List.contains_cons, List.contains_nil, Bool.or_false, Bool.or_eq_true, beq_iff_eq]
  omega
section XZ
variable {z8 z0 z1 : ow_MS}
theorem Zj_8 {g : Nat} (h1 : 24 ≤ g / 1000) (h2 : g / 1000 ≤ 40) : (Zc z8 z0 z1).1 g = z8.1 g ∧ (Zc z8 z0 z1).2.1 g = z8.2.1 g := by
  have e := (bl8_i (g / 1000)).mpr ⟨h1, h2⟩
  exact ⟨if_pos e, if_pos e⟩
theorem Zc_z {g : Nat} (h1 : 41 ≤ g / 1000) (h2 : g / 1000 ≤ 42) : (Zc z8 z0 z1).1 g = z0.1 g ∧ (Zc z8 z0 z1).2.1 g = z0.2.1 g := by
  have e := (bl0_i (g / 1000)).mpr ⟨h1, h2⟩
  have n8 : ¬ bl8.contains (g / 1000) = true := fun h9 => by have := (bl8_i _).mp h9; omega
  exact ⟨(if_neg n8).trans (if_pos e), (if_neg n8).trans (if_pos e)⟩
theorem Zj_1 {g : Nat} (h1 : 43 ≤ g / 1000) (h2 : g / 1000 ≤ 45) : (Zc z8 z0 z1).1 g = z1.1 g ∧ (Zc z8 z0 z1).2.1 g = z1.2.1 g := by
  have e := (bl1_i (g / 1000)).mpr ⟨h1, h2⟩
  have n8 : ¬ bl8.contains (g / 1000) = true := fun h9 => by have := (bl8_i _).mp h9; omega
  have n0 : ¬ bl0.contains (g / 1000) = true := fun h9 => by have := (bl0_i _).mp h9; omega
  exact ⟨((if_neg n8).trans (if_neg n0)).trans (if_pos e), ((if_neg n8).trans (if_neg n0)).trans (if_pos e)⟩
theorem Zc_n {g : Nat} (h : g / 1000 < 24 ∨ 45 < g / 1000) : (Zc z8 z0 z1).1 g = 0 ∧ (Zc z8 z0 z1).2.1 g = fun _ => 0 := by
  have n8 : ¬ bl8.contains (g / 1000) = true := fun h9 => by have := (bl8_i _).mp h9; omega
  have n0 : ¬ bl0.contains (g / 1000) = true := fun h9 => by have := (bl0_i _).mp h9; omega
  have n1 : ¬ bl1.contains (g / 1000) = true := fun h9 => by have := (bl1_i _).mp h9; omega
  exact ⟨((if_neg n8).trans (if_neg n0)).trans (if_neg n1), ((if_neg n8).trans (if_neg n0)).trans (if_neg n1)⟩
theorem Zj_0 (h8 : fr (fun g => 39001 ≤ g ∧ g < 39001 + 24) zeroS z8) (h0 : fr (fun g => g = 41006 ∨ g = 41007 ∨ g = 53001) zeroS z0) (h1 : fr (fun g => 45001 ≤ g ∧ g < 45012 ∨ g = 43005 ∨ g = 53001) zeroS z1) {g : Nat} (hg : ¬ spc g) : (Zc z8 z0 z1).1 g = 0 ∧ ∀ i, (Zc z8 z0 z1).2.1 g i = 0 := by
  unfold spc at hg
  by_cases c8 : 24 ≤ g / 1000 ∧ g / 1000 ≤ 40
  · obtain ⟨e1, e2⟩ := Zj_8 (z8 := z8) (z0 := z0) (z1 := z1) c8.1 c8.2
    rw [e1, e2, (h8 g (by omega)).1, (h8 g (by omega)).2.1]
    exact ⟨rfl, fun _ => rfl⟩
  · by_cases c0 : 41 ≤ g / 1000 ∧ g / 1000 ≤ 42
    · obtain ⟨e1, e2⟩ := Zc_z (z8 := z8) (z0 := z0) (z1 := z1) c0.1 c0.2
      rw [e1, e2, (h0 g (by omega)).1, (h0 g (by omega)).2.1]
      exact ⟨rfl, fun _ => rfl⟩
    · by_cases c1 : 43 ≤ g / 1000 ∧ g / 1000 ≤ 45
      · obtain ⟨e1, e2⟩ := Zj_1 (z8 := z8) (z0 := z0) (z1 := z1) c1.1 c1.2
        rw [e1, e2, (h1 g (by omega)).1, (h1 g (by omega)).2.1]
        exact ⟨rfl, fun _ => rfl⟩
      · obtain ⟨e1, e2⟩ := Zc_n (z8 := z8) (z0 := z0) (z1 := z1) (g := g) (by omega)
        rw [e1, e2]
        exact ⟨rfl, fun _ => rfl⟩
end XZ
section XZ2
variable {y : ow_MS}
theorem tbO_nil {g p : Nat} (h5 : y.1 (g + 5) = 0) (hb : byR y (g + 1)) : tbO y g p [] [] := ⟨⟨h5, rfl, fun s C h => (by rw [List.getElem?_nil] at h; cases h), fun k s h => (by rw [List.getElem?_nil] at h; cases h)⟩, fun i j hij hj => absurd hj (Nat.not_lt_zero _), fun C hC => absurd hC List.not_mem_nil, Nat.zero_le _, hb⟩
theorem by_0 {g : Nat} (h : ∀ i, y.2.1 g i = 0) : byR y g := fun i => by
  rw [h i]
  rfl
theorem cOK_0 : cOK (0, []) := by
  unfold cOK
  simp
/-- a state of noughts -/
theorem gM_0 (h : ∀ g, ¬ spc g → y.1 g = 0 ∧ ∀ i, y.2.1 g i = 0) : gM y := by
  have n : ∀ g, g < 39001 ∨ 45012 ≤ g → ¬ spc g := fun g hg h9 => by unfold spc at h9; omega
  have b : ∀ g, g < 39001 ∨ 45012 ≤ g → byR y g := fun g hg => by_0 (h g (n g hg)).2
  refine ⟨⟨⟨b 1001 (by omega), fun d hd => Or.inl ⟨0, by omega, (h 1003 (n _ (by omega))).2 d, (h 1002 (n _ (by omega))).2 d, fun i a hi => by rw [List.getElem?_nil] at hi; cases hi⟩⟩, fun g hg => ?_, fun k hk => ?_⟩, ⟨[], [], tbO_nil (h 2005 (n _ (by omega))).1 (b 2001 (by omega))⟩, ⟨[], [], tbO_nil (h 3005 (n _ (by omega))).1 (b 3001 (by omega))⟩, b 13001 (by omega), b 14001 (by omega), b 15001 (by omega)⟩
  · have key : ∀ g, g ∈ nHL → ¬ spc (g + 8) ∧ ¬ spc (g + 9) ∧ ¬ spc (g + 1) ∧ ¬ spc (g + 2) ∧ ¬ spc (g + 3) := by
      unfold spc nHL
      decide
    obtain ⟨k1, k2, k3, k4, k5⟩ := key g hg
    exact ⟨(0, 0, (fun _ => 0, fun _ => 0), fun _ => 0), ⟨(h _ k1).1, (h _ k2).1, fun v => (h _ k3).2 v, fun v => (h _ k4).2 v, fun v => (h _ k5).2 v⟩, fun _ => by show 0 < 24; omega, fun _ => by show 0 < 24; omega⟩
  · rcases hk with rfl | rfl
    · exact ⟨b 8001 (by omega), b 9001 (by omega), b 10001 (by omega)⟩
    · exact ⟨b 21001 (by omega), b 22001 (by omega), b 23001 (by omega)⟩
end XZ2
section XZ3
variable {z : ow_MS}
theorem ref_init2 : ∃ m1 m2, (∃ b, ∀ K, b ≤ K → qe_X13_makeSimples_a K Z13 = some m1) ∧ (∃ b, ∀ K, b ≤ K → qe_X13_makePermutations_a K m1 = some m2) ∧ gI XR (usZ m2 blM) ∧ (∀ g, g < 73 → (usZ m2 blM).1 g = 0) ∧ ∀ g i, ¬ (73 ≤ g ∧ g ≤ 76 ∨ 97 ≤ g ∧ g ≤ 107) → (usZ m2 blM).2.1 g i = 0 := by
  have h1 : ∀ g, Z13.1 g = 0 := fun _ => rfl
  have h2 : ∀ g i, g ≠ 73 → Z13.2.1 g i = 0 := fun g i hg => by
    show (if g = 73 then fT13 else fun _ => 0) i = 0
    rw [if_neg hg]
  have h73 : ∀ m, m ≤ 4 → Z13.2.1 73 m = nI (thM m) := by
    intro m hm
    have key : ∀ m : Fin 5, fT13 m.val = nI (thM m.val) := by decide +kernel
    exact key ⟨m, by omega⟩
  obtain ⟨m1, m2, e1, e2, hg⟩ := ref_init (z := Z13) h1 h2 h73
  obtain ⟨r1, ⟨b1, hb1⟩, hD, hf1⟩ := tp_makeSimples_a (z := Z13) (fun n _ => h2 100 _ (by omega))
  have er1 : r1 = m1 := by
    obtain ⟨b, hb⟩ := e1
    have q1 := hb (b + b1) (by omega)
    have q2 := hb1 (b + b1) (by omega)
    exact Option.some.inj (q2.symm.trans q1)
  subst er1
  have pa : ∀ g, ¬ (97 ≤ g ∧ g ≤ 107) → ¬ pA g := fun g hg h => hg h
  have m1I : ∀ g i, ¬ (97 ≤ g ∧ g ≤ 107) → g ≠ 73 → r1.2.1 g i = 0 := fun g i hg h9 => by
    rw [(hf1 g (pa g hg)).2.1]
    exact h2 g i h9
  obtain ⟨r2, ⟨b2, hb2⟩, hJ, hf2⟩ := tp_perms_a (z := r1) ⟨fun i => ⟨0, by omega, m1I 74 i (by omega) (by omega)⟩, fun m g1 g4 o p ho hp => ⟨⟨0, by omega, m1I 75 _ (by omega) (by omega)⟩, 0, by omega, m1I 76 _ (by omega) (by omega)⟩⟩
  have er2 : r2 = m2 := by
    obtain ⟨b, hb⟩ := e2
    have q1 := hb (b + b2) (by omega)
    have q2 := hb2 (b + b2) (by omega)
    exact Option.some.inj (q2.symm.trans q1)
  subst er2
  have pp : ∀ g, ¬ (74 ≤ g ∧ g ≤ 76) → ¬ pmP g := fun g hg h => by unfold pmP at h; omega
  refine ⟨r1, r2, e1, e2, hg, fun g hg => ?_, fun g i hg => ?_⟩
  · show (if _ then 0 else r2.1 g) = 0
    split
    · rfl
    · rw [(hf2 g (pp g (by omega))).1, (hf1 g (pa g (by omega))).1]
      exact h1 g
  · show (if _ then (fun _ => 0) else r2.2.1 g) i = 0
    split
    · rfl
    · rw [(hf2 g (pp g (by omega))).2.1]
      exact m1I g i (by omega) (by omega)
end XZ3
/-- the constructors: answers for all fuels from some on, and related states -/
theorem both_init0 : ∃ z8 z0 zA z1 m1 m2 b, (∀ K, b ≤ K → ce_X8i_b8 K 24000 zeroS = some z8 ∧ ce_X0i_b0 K 41000 53001 zeroS = some z0 ∧ ce_X1i_b1 K 43000 zeroS = some zA ∧ ce_X1j_b1b K 43000 53001 (usZ zA [53]) = some z1 ∧ qe_X13_makeSimples_a K Z13 = some m1 ∧ qe_X13_makePermutations_a K m1 = some m2) ∧ REL (vl0, Zc z8 z0 z1, usZ m2 blM) ∧ (∀ d, (Zc z8 z0 z1).2.1 1002 d = 0) ∧ (Zc z8 z0 z1).1 2005 = 0 ∧ (Zc z8 z0 z1).1 3005 = 0 := by
  obtain ⟨z8, ⟨b8, hb8⟩, k8, f8⟩ := ti_b8 (z := zeroS) (fun m i _ => rfl)
  obtain ⟨z0, ⟨b0, hb0⟩, k0, f0⟩ := ti_b0 (z := zeroS)
  obtain ⟨zA, ⟨bA, hbA⟩, kA, fA⟩ := ti_b1 (z := zeroS) (fun m i _ => rfl)
  have u53 : ∀ r, (usZ zA [53]).2.1 53001 r = 0 := fun r => by
    show (if ([53] : List Nat).contains (53001 / 1000) = true then (fun _ => 0) else zA.2.1 53001) r = 0
    rw [if_pos (by decide)]
  obtain ⟨z1, ⟨b1, hb1⟩, k1, f1⟩ := ti_b1b (z := usZ zA [53]) u53
  obtain ⟨m1, m2, ⟨c1, hc1⟩, ⟨c2, hc2⟩, hgI, hz1, hz2⟩ := ref_init2
  have uA : ∀ g, g / 1000 ≠ 53 → (usZ zA [53]).1 g = zA.1 g ∧ (usZ zA [53]).2.1 g = zA.2.1 g ∧ (usZ zA [53]).2.2 g = zA.2.2 g := fun g hg => by
    have e : ¬ ([53] : List Nat).contains (g / 1000) = true := by
      simp only [List.contains_cons, List.contains_nil, Bool.or_false, beq_iff_eq]
      exact hg
    exact ⟨if_neg e, if_neg e, if_neg e⟩
  have f1' : ∀ g, g / 1000 ≠ 53 → ¬ (45001 ≤ g ∧ g < 45012 ∨ g = 43005) → z1.1 g = 0 ∧ ∀ i, z1.2.1 g i = 0 := fun g h9 hg => by
    obtain ⟨a1, a2, -⟩ := f1 g (by omega)
    obtain ⟨a3, a4, -⟩ := uA g h9
    obtain ⟨a5, a6, -⟩ := fA g (by omega)
    rw [a1, a2, a3, a4, a5, a6]
    exact ⟨rfl, fun _ => rfl⟩
  have hY : ∀ g, ¬ spc g → (Zc z8 z0 z1).1 g = 0 ∧ ∀ i, (Zc z8 z0 z1).2.1 g i = 0 := by
    intro g hg
    unfold spc at hg
    by_cases c8 : 24 ≤ g / 1000 ∧ g / 1000 ≤ 40
    · obtain ⟨e1, e2⟩ := Zj_8 (z8 := z8) (z0 := z0) (z1 := z1) c8.1 c8.2
      rw [e1, e2, (f8 g (by omega)).1, (f8 g (by omega)).2.1]
      exact ⟨rfl, fun _ => rfl⟩
    · by_cases c0 : 41 ≤ g / 1000 ∧ g / 1000 ≤ 42
      · obtain ⟨e1, e2⟩ := Zc_z (z8 := z8) (z0 := z0) (z1 := z1) c0.1 c0.2
        rw [e1, e2, (f0 g (by omega)).1, (f0 g (by omega)).2.1]
        exact ⟨rfl, fun _ => rfl⟩
      · by_cases c1 : 43 ≤ g / 1000 ∧ g / 1000 ≤ 45
        · obtain ⟨e1, e2⟩ := Zj_1 (z8 := z8) (z0 := z0) (z1 := z1) c1.1 c1.2
          rw [e1, e2]
          exact f1' g (by omega) (by omega)
        · obtain ⟨e1, e2⟩ := Zc_n (z8 := z8) (z0 := z0) (z1 := z1) (g := g) (by omega)
          rw [e1, e2]
          exact ⟨rfl, fun _ => rfl⟩
  have n : ∀ g, g < 39001 ∨ 39025 ≤ g ∧ g < 41006 ∨ 41007 < g ∧ g < 43005 → ¬ spc g := fun g hg h9 => by unfold spc at h9; omega
  have hM := gM_0 hY
  obtain ⟨y, hy⟩ : ∃ y, y = Zc z8 z0 z1 := ⟨_, rfl⟩
  obtain ⟨w, hw⟩ : ∃ w, w = usZ m2 blM := ⟨_, rfl⟩
  have e39 : ∀ m, m < 24 → y.2.1 (39001 + m) = z8.2.1 (39001 + m) := fun m hm => by rw [hy]; exact (Zj_8 (by omega) (by omega)).2
  have e41 : ∀ g, 41000 ≤ g → g < 42000 → y.2.1 g = z0.2.1 g := fun g g1 g2 => by rw [hy]; exact (Zc_z (by omega) (by omega)).2
  have e43 : ∀ g, 43000 ≤ g → g < 46000 → y.2.1 g = z1.2.1 g := fun g g1 g2 => by rw [hy]; exact (Zj_1 (by omega) (by omega)).2
  rw [← hy] at hY hM
  rw [← hw] at hgI hz1 hz2
  have sl0 : ∀ (g s : Nat), g + 3 < 39001 → slC y g s (0, []) := fun g s hg => ⟨(hY _ (n _ (by omega))).2 s, (hY _ (n _ (by omega))).2 s, fun i a hi => (by rw [List.getElem?_nil] at hi; cases hi)⟩
  have by0 : ∀ g, g < 39001 → byR y g := fun g hg => by_0 (hY g (n g (by omega))).2
  have hrel : rel3 XR w y := by
    refine ⟨⟨fun _ => none, hgI, hM.1, fun d hd => ⟨fun _ => hz2 12 _ (by omega), fun A sg h9 => by cases h9⟩, fun d hd => ⟨fun _ => (hY 1002 (n _ (by omega))).2 d, fun A sg h9 => by cases h9⟩, fun d A sg hd h9 => by cases h9⟩, hM, ⟨0, by omega, hz1 11 (by omega), (hY 11001 (n _ (by omega))).1, fun k hk => absurd hk (Nat.not_lt_zero _)⟩, fun b hb => ⟨?_, fun h9 => absurd (hz2 96 b (by omega)) h9⟩, fun b hb => ⟨0, 0, by omega, by omega, (hY 15 (n _ (by omega))).2 b, fun h9 => absurd h9 (Nat.lt_irrefl _)⟩, ⟨[], ⟨by decide, hz1 22 (by omega), fun k A sg h9 => (by rw [List.getElem?_nil] at h9; cases h9)⟩, ⟨[], [], tbO_nil (hY 2005 (n _ (by omega))).1 (by0 2001 (by omega)), rfl, fun k A sg h9 => (by rw [List.getElem?_nil] at h9; cases h9)⟩, fun k A sg h9 => (by rw [List.getElem?_nil] at h9; cases h9)⟩, [], ⟨by decide, hz1 36 (by omega), fun k A sg h9 => (by rw [List.getElem?_nil] at h9; cases h9)⟩, ⟨[], [], tbO_nil (hY 3005 (n _ (by omega))).1 (by0 3001 (by omega)), rfl, fun k A sg h9 => (by rw [List.getElem?_nil] at h9; cases h9)⟩, fun k A sg h9 => (by rw [List.getElem?_nil] at h9; cases h9)⟩
    rw [hz2 96 b (by omega), (hY 15 (n _ (by omega))).2 b]
  have hci : CI vl0 y := by
    refine ⟨⟨by0 25001 (by omega), fun s _ => ⟨(0, []), sl0 25000 s (by omega), cOK_0⟩, 0, by omega, (hY 40008 (n _ (by omega))).1⟩, ⟨(0, []), sl0 25000 1 (by omega), cOK_0, Or.inl rfl⟩, fun m i hm hi => ?_, ⟨fun i hi => ?_, fun i hi => ?_, fun i hi => ⟨0, by omega, (hY 41009 (n _ (by omega))).2 i⟩⟩, ⟨0, by omega, (hY 41010 (n _ (by omega))).1, fun s hs => absurd hs (Nat.not_lt_zero _)⟩, fun m hm => ?_, fun i k hi hk => ?_, 640, 20000, rfl, rfl, rfl, rfl, rfl, rfl, by decide, by decide, by decide, by decide⟩
    · rw [e39 m (by omega)]
      exact k8 m i (by omega) hi
    · rw [e41 41006 (by omega) (by omega)]
      exact k0.1 i hi
    · rw [e41 41007 (by omega) (by omega)]
      exact k0.2 i hi
    · rw [e43 43005 (by omega) (by omega)]
      exact k1 m hm
    · rw [e43 (45001 + i) (by omega) (by omega), (f1 (45001 + i) (by omega)).2.1, (uA (45001 + i) (by omega)).2.1, biN_n]
      exact kA i k (by omega) hk
  have hj : jnR w := fun T1 hT => Or.inl (List.eq_nil_of_length_eq_zero (by
    have h9 := hT.2.2.1
    rw [hz2 50 0 (by omega)] at h9
    have hl := hT.1
    have := nI_inj9 (a := 0) (b := T1.length) (by omega) (by omega) h9
    omega))
  exact ⟨z8, z0, zA, z1, m1, m2, b8 + b0 + bA + b1 + c1 + c2, fun K hK => ⟨hb8 K (by omega), hb0 K (by omega), hbA K (by omega), hb1 K (by omega), hc1 K (by omega), hc2 K (by omega)⟩, by rw [← hy, ← hw]; exact ⟨⟨hrel, hci, hj⟩, (hY 1002 (n _ (by omega))).2, (hY 2005 (n _ (by omega))).1, (hY 3005 (n _ (by omega))).1⟩⟩
theorem both_init : ∃ z8 z0 zA z1 m1 m2 b, (∀ K, b ≤ K → ce_X8i_b8 K 24000 zeroS = some z8 ∧ ce_X0i_b0 K 41000 53001 zeroS = some z0 ∧ ce_X1i_b1 K 43000 zeroS = some zA ∧ ce_X1j_b1b K 43000 53001 (usZ zA [53]) = some z1 ∧ qe_X13_makeSimples_a K Z13 = some m1 ∧ qe_X13_makePermutations_a K m1 = some m2) ∧ REL (vl0, Zc z8 z0 z1, usZ m2 blM) := by
  obtain ⟨z8, z0, zA, z1, m1, m2, b, h1, h2, -⟩ := both_init0
  exact ⟨z8, z0, zA, z1, m1, m2, b, h1, h2⟩
