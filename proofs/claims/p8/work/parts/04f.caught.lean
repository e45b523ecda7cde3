/-! a thrown object, caught by a row of the method's own table behind rows that let it pass -/
/-- a row that lets an object of class t pass at this place: it doesn't cover it, or names a class that can't take it -/
def ow_pass (pl : Platform) (u : State) (k : ClassId) (pc : Nat) (t : ClassId) (y : ExceptionTableEntry) : Prop := covers y pc = false ∨ (y.catchType ≠ 0 ∧ ∃ z, u.vm.ClassLinks pl k y.catchType z ∧ u.vm.assignable t z = false)
section CAUGHT
variable {e : Env} {u : State} {f : JFrame} {a : Addr} {cell : Cell}
/-- one row of the table, its class linked: who is asked, and what the tables are then -/
theorem ow_row {S : State} {z : ClassId} {x : ExceptionTableEntry} {t : List ExceptionTableEntry} {fits9 : Bool} (hW : u.WarmedH S.vm) (hk0 : ∃ k, u.vm.classes[cell.cls]? = some k) (hx : covers x f.pc = true) (h0 : x.catchType ≠ 0) (hl : u.vm.ClassLinks e.platform f.method.cls x.catchType z) (hcell : S.heap[a]? = some cell) (hobj : ∀ k, cell.vm ≠ .statics k) (hfit : u.vm.assignable cell.cls z = fits9) :
    ∃ vm1, u.WarmedH vm1 ∧ ∀ (Q : Handler → Pre) (E : CtlPost) (d : Bool) (acts : List Action), wp (findHandler.go f a (x :: t)) Q E e d acts S ↔ (if fits9 = true then Q (.found x.handlerPc) d acts (S.setVm vm1) else wp (findHandler.go f a t) Q E e d acts (S.setVm vm1)) := by
  obtain ⟨dk, _, _, kt, hd, _, _, _, _, hkt, _, hopen⟩ := hl.here
  obtain ⟨k0, hk0⟩ := hk0
  have hW1 : u.WarmedH (S.vm.noted f.method.cls x.catchType (.cls z)) := hW.noted hd hopen (State.rightAt_cls hl)
  obtain ⟨k1, hk1, -⟩ := hW1.alike.2.2 _ _ hk0
  obtain ⟨k2, hk2, -⟩ := hW1.alike.2.2 _ _ hkt
  obtain ⟨ha, ht⟩ := (resolveClass_links e.toSetting (hW.classLinks hl)).op (op := VmOp.resolveClass f.method.cls x.catchType) rfl
  have hf1 : (S.vm.noted f.method.cls x.catchType (.cls z)).assignable cell.cls z = fits9 := by rw [hW1.alike.assignable]; exact hfit
  simp only [covers] at hx
  refine ⟨_, hW1, fun Q E d acts => ?_⟩
  cases fits9 <;> simp [findHandler.go, hx, h0, ha, ht, hcell, hobj, hk1, hk2, hf1, VmOp.dirties, VmOp.acts]
theorem ow_search {z : ClassId} (x : ExceptionTableEntry) (suf : List ExceptionTableEntry) (hk0 : ∃ k, u.vm.classes[cell.cls]? = some k) (hobj : ∀ k, cell.vm ≠ .statics k) (hx : covers x f.pc = true) (h0 : x.catchType ≠ 0) (hl : u.vm.ClassLinks e.platform f.method.cls x.catchType z) (hfit : u.vm.assignable cell.cls z = true) (pre : List ExceptionTableEntry) :
    ∀ S : State, u.WarmedH S.vm → S.heap[a]? = some cell → (∀ y ∈ pre, ow_pass e.platform u f.method.cls f.pc cell.cls y) → ∃ vm1, u.WarmedH vm1 ∧ ∀ (Q : Handler → Pre) (E : CtlPost) (d : Bool) (acts : List Action), wp (findHandler.go f a (pre ++ x :: suf)) Q E e d acts S ↔ Q (.found x.handlerPc) d acts (S.setVm vm1) := by
  induction pre with
  | nil =>
    intro S hW hcell _
    obtain ⟨vm1, hW1, h⟩ := ow_row (t := suf) hW hk0 hx h0 hl hcell hobj hfit
    exact ⟨vm1, hW1, fun Q E d acts => by rw [List.nil_append, h Q E d acts, if_pos rfl]⟩
  | cons y ys ih =>
    intro S hW hcell hpass
    have hys : ∀ w ∈ ys, ow_pass e.platform u f.method.cls f.pc cell.cls w := fun w hw => hpass w (List.mem_cons_of_mem _ hw)
    rcases hpass y List.mem_cons_self with hno | ⟨hy0, z9, hl9, hn9⟩
    · obtain ⟨vm1, hW1, h⟩ := ih S hW hcell hys
      exact ⟨vm1, hW1, fun Q E d acts => by rw [List.cons_append, W.findHandler_go_skip hno]; exact h Q E d acts⟩
    · by_cases hcov : covers y f.pc = true
      · obtain ⟨vm0, hW0, h9⟩ := ow_row (t := ys ++ x :: suf) hW hk0 hcov hy0 hl9 hcell hobj hn9
        obtain ⟨vm1, hW1, h⟩ := ih (S.setVm vm0) hW0 hcell hys
        exact ⟨vm1, hW1, fun Q E d acts => by
          rw [List.cons_append, h9 Q E d acts, if_neg (by decide)]
          exact h Q E d acts⟩
      · obtain ⟨vm1, hW1, h⟩ := ih S hW hcell hys
        exact ⟨vm1, hW1, fun Q E d acts => by rw [List.cons_append, W.findHandler_go_skip (by simpa using hcov)]; exact h Q E d acts⟩
end CAUGHT
section CAUGHT2
variable {p : Program} {l : Launch} {e : Env} {R : Room} {s : State} {m : MethodId} {args : Array Value} {below : List Frame} {meth : Method} {c : Code} {T : State} {locs : List Loc} {cells slots : Nat}
theorem ow_caught (X : Stand p l e R s m args below meth c T locs cells slots) (a : Addr) {g : JFrame} (hg : g.method = m) {s0 : State} (hcome : Steps p.tables e below s0 ((T.setTop g).pushFrame (.throwing a))) {cell : Cell} (hcell : T.heap[a]? = some cell) (hobj : cell.vm.isStatics = false) (hk0 : ∃ k, s.vm.classes[cell.cls]? = some k)
    (pre : List ExceptionTableEntry) (x : ExceptionTableEntry) (suf : List ExceptionTableEntry) (hsplit : c.exceptionTable.toList = pre ++ x :: suf) (hpass : ∀ y ∈ pre, ow_pass e.platform s m.cls g.pc cell.cls y) (hx : covers x g.pc = true) (h0 : x.catchType ≠ 0) {z : ClassId} (hl : s.vm.ClassLinks e.platform m.cls x.catchType z) (hfit : s.vm.assignable cell.cls z = true) :
    ∃ vm1, Stand p l e R s m args below meth c (T.setVm vm1) locs cells slots ∧ Steps p.tables e below s0 ((T.setVm vm1).setTop { g with pc := x.handlerPc, stack := [.ref a] }) := by
  subst hg
  obtain ⟨vm1, hW1, hq⟩ := ow_search (e := e) (u := s) (f := g) (a := a) (cell := cell) x suf hk0 (VmData.ne_statics_of hobj) hx h0 hl hfit pre ((T.setTop g).pushFrame (.throwing a)) X.warmed hcell hpass
  refine ⟨vm1, X.noted hW1, hcome.trans ?_⟩
  have hfind : ∀ (Q : Handler → Pre) (E : CtlPost) (d : Bool) (acts : List Action), wp (findHandler g a) Q E e d acts ((T.setTop g).pushFrame (.throwing a)) ↔ Q (.found x.handlerPc) d acts (((T.setTop g).pushFrame (.throwing a)).setVm vm1) := fun Q E d acts => by
    rw [W.findHandler_eq (s := (T.setTop g).pushFrame (.throwing a)) X.method' X.code, hsplit]
    exact hq Q E d acts
  have hstep : ∀ r : List Frame, (stepThrowing e ((T.setTop g).pushFrame (.throwing a)) a (.java g :: r)).Is ((((T.setTop g).pushFrame (.throwing a)).setVm vm1).setFrames (.java { g with pc := x.handlerPc, stack := [.ref a] } :: r)) [] := fun r => by
    simp only [stepThrowing, searchFrame, vmDo]
    generalize hr : Sem.go _ e false [] ((T.setTop g).pushFrame (.throwing a)) = res
    obtain ⟨as, rfl, ha⟩ := Sem.eq_ok_of hr (a := Handler.found x.handlerPc) (s' := ((T.setTop g).pushFrame (.throwing a)).setVm vm1) (acts' := []) (by simp [hfind _ _ _ _])
    exact ⟨rfl, ha⟩
  have hh := X.here
  obtain ⟨hgo, hw⟩ := hh.throwing (g := g) a
  refine Steps.head hgo hw ?_
  rw [stepThread_throwing (frames_entered hh.top _), (hstep _).1]
  obtain ⟨g0, hg0⟩ := Option.isSome_iff_exists.mp hh.top
  obtain ⟨r, hr⟩ := State.topJava?_eq_some.mp hg0
  have hfr : ∀ (v : State) (F G : List Frame), ((v.setFrames F).setVm vm1).setFrames G = (v.setVm vm1).setFrames G := fun v F G => by
    have h1 : (v.setFrames F).setVm vm1 = (v.setVm vm1).setFrames F := rfl
    rw [h1, State.setFrames_setFrames]
  have hr1 : (T.setVm vm1).frames = .java g0 :: r := hr
  rw [State.setTop_of_frames _ hr1, hr, List.tail_cons, State.pushFrame, hfr, State.setTop_of_frames _ hr, hfr]
  exact Steps.refl _
end CAUGHT2
