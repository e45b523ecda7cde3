/-! throwing out of a method of the class: what must be known at the start, and how it is handed on -/
/-- the words of an exception's class that aren't kept by every step -/
def ow_Xs (X : String) (U : State) : Prop := va_Nw (.declares (Bundle.initS "java/lang/RuntimeException")) U ∧ va_Nw (.declares (Bundle.initS "java/lang/Exception")) U ∧ va_Nw (.declares (Bundle.initS Bundle.tN)) U ∧ va_Nw (.castable X X) U
/-- a text constant, Throwable's two statics, the class's words -/
def ow_Th (A : Nat → Prop) (own : String) (k : Nat) (tx : String) (sa : Nat) (X : String) (U : State) : Prop := vk_R own k tx sa U ∧ vx_Zq Bundle.tN "UNASSIGNED_STACK" Bundle.steD A U U.heap ∧ vx_Zq Bundle.tN "SUPPRESSED_SENTINEL" Bundle.listD A U U.heap ∧ ow_Xs X U
theorem ow_Xs.same {X : String} {u U : State} (h : u.vm = U.vm) (hx : ow_Xs X u) : ow_Xs X U := ⟨va_Nw.same rfl h hx.1, va_Nw.same rfl h hx.2.1, va_Nw.same rfl h hx.2.2.1, va_Nw.same rfl h hx.2.2.2⟩
theorem ow_Xs.warm {X : String} {s U : State} (hW : s.WarmedH U.vm) (hx : ow_Xs X s) : ow_Xs X U := ⟨va_Nw.warmD hW hx.1, va_Nw.warmD hW hx.2.1, va_Nw.warmD hW hx.2.2.1, va_Nw.warmC hW hx.2.2.2⟩
theorem ow_Th.same {A : Nat → Prop} {own tx X : String} {k sa : Nat} {u U : State} (h : u.vm = U.vm) (hh : u.heap = U.heap) (hx : ow_Th A own k tx sa X u) : ow_Th A own k tx sa X U := by
  obtain ⟨h1, h2, h3, h4⟩ := hx
  rw [hh] at h2 h3
  have hal : u.vm.Alike U.vm := by rw [h]; exact Vm.Alike.refl _
  exact ⟨vk_R.same h.symm h1, h2.moved hal, h3.moved hal, h4.same h⟩
theorem ow_Th.to {A B : Nat → Prop} {own tx X : String} {k sa : Nat} {s U : State} {H : Heap} {locs : List Loc} (hx : ow_Th A own k tx sa X s) (hS : va_S A s.heap H locs) (hW : s.WarmedH U.vm) (hU : U.heap = H) (hB : ∀ q, B q → A q) : ow_Th B own k tx sa X U := by
  obtain ⟨h1, h2, h3, h4⟩ := hx
  rw [ow_Th, hU]
  exact ⟨vk_R.warm hW h1, ((h2.kept (fun a ha hn => hS.2.1 a ha hn)).moved hW.alike).narrow hB, ((h3.kept (fun a ha hn => hS.2.1 a ha hn)).moved hW.alike).narrow hB, h4.warm hW⟩
