/-! kept diagrams stay plane where the table stays -/
theorem fr_sy {P : Nat → Prop} {y z : ow_MS} (h : fr P y z) : fr P z y := fun g hg => ⟨(h g hg).1.symm, (h g hg).2.1.symm, (h g hg).2.2.symm⟩
theorem gaS_fr {P : Nat → Prop} {y z : ow_MS} (hf : fr P y z) (hP : ∀ q, cW 1000 q → ¬ P q) (h : gaS y) : gaS z := fun d A sg c hd hs hA => h d A sg c hd (slC_fr (fr_sy hf) hP hs) hA
theorem plS_fr {P : Nat → Prop} {y z : ow_MS} (hf : fr P y z) (hP : ∀ q, cW 1000 q → ¬ P q) (h : plS y) : plS z := fun d A sg c hd hs hA => h d A sg c hd (slC_fr (fr_sy hf) hP hs) hA
