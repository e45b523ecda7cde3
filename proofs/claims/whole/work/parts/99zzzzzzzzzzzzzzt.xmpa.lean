/-! maps: the reference's tables at the start, and kept -/
section XMA
def epA (z : ow_MS) : Prop := (∀ m, 1 ≤ m → m ≤ 4 → eP9 z m) ∧ ∀ m, m ≤ 4 → z.2.1 73 m = nI (thM m)
theorem epA_fr {P : Nat → Prop} {z z1 : ow_MS} (hf : fr P z z1) (hP : ∀ g, 73 ≤ g → g ≤ 76 → ¬ P g) (h : epA z) : epA z1 := by
  refine ⟨fun m m1 m4 => ⟨fun p a hp ha => ?_, fun o x ho hx hl => ?_⟩, fun m hm => ?_⟩
  · rw [(hf 74 (hP _ (by omega) (by omega))).2.1]
    exact (h.1 m m1 m4).1 p a hp ha
  · rw [(hf 75 (hP _ (by omega) (by omega))).2.1, (hf 76 (hP _ (by omega) (by omega))).2.1]
    exact (h.1 m m1 m4).2 o x ho hx hl
  · rw [(hf 73 (hP _ (by omega) (by omega))).2.1]
    exact h.2 m hm
theorem ep_init {m1 m2 : ow_MS} {b : Nat} (hb : ∀ K, b ≤ K → qe_X13_makeSimples_a K Z13 = some m1 ∧ qe_X13_makePermutations_a K m1 = some m2) : epA (usZ m2 blM) := by
  have h2 : ∀ g i, g ≠ 73 → Z13.2.1 g i = 0 := fun g i hg => by
    show (if g = 73 then fT13 else fun _ => 0) i = 0
    rw [if_neg hg]
  have h73 : ∀ m, m ≤ 4 → Z13.2.1 73 m = nI (thM m) := by
    intro m hm
    have key : ∀ m : Fin 5, fT13 m.val = nI (thM m.val) := by decide +kernel
    exact key ⟨m, by omega⟩
  obtain ⟨r1, ⟨b1, hb1⟩, ⟨-, hf1⟩⟩ := tp_simE (z := Z13) (fun n _ => h2 100 _ (by omega))
  have er1 : r1 = m1 := Option.some.inj ((hb1 (b + b1) (by omega)).symm.trans (hb (b + b1) (by omega)).1)
  subst er1
  obtain ⟨r2, ⟨b2, hb2⟩, ⟨hE, hf2⟩⟩ := tp_permE (z := r1)
  have er2 : r2 = m2 := Option.some.inj ((hb2 (b + b2) (by omega)).symm.trans (hb (b + b2) (by omega)).2)
  subst er2
  refine ⟨fun m m1 m4 => ⟨fun p a hp ha => ?_, fun o x ho hx hl => ?_⟩, fun m hm => ?_⟩
  · rw [show (usZ r2 blM).2.1 74 = r2.2.1 74 from uz_I (m := r2) (by omega)]
    exact (hE m m1 m4).1 p a hp ha
  · rw [show (usZ r2 blM).2.1 75 = r2.2.1 75 from uz_I (m := r2) (by omega), show (usZ r2 blM).2.1 76 = r2.2.1 76 from uz_I (m := r2) (by omega)]
    exact (hE m m1 m4).2 o x ho hx hl
  · rw [show (usZ r2 blM).2.1 73 = r2.2.1 73 from uz_I (m := r2) (by omega), (hf2 73 (by unfold pmP; omega)).2.1, (hf1 73 (by unfold pA; omega)).2.1]
    exact h73 m hm
theorem epA_keep : keepP rfX epA := fun F z z1 hf hF h => epA_fr hf (fun g g1 g2 h9 => hF g h9 (by unfold rfX; omega)) h
end XMA
