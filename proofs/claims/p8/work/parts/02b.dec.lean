/-! decode over a slice of the code: what stands in a window decides, if the instruction ends in it -/
section DEC
variable {α β : Type} {A B : ByteArray} {s : Nat}
def dw_ok (A B : ByteArray) (s : Nat) : Prop := s + B.size ≤ A.size ∧ ∀ (i : Nat) (h : i < B.size) (h2 : s + i < A.size), A[s + i]'h2 = B[i]'h
def dw_L (A B : ByteArray) (s : Nat) (r : Jvm.ClassFile.Decoder α) : Prop := ∀ (p : Nat) (v : α) (q : Nat), Jvm.ClassFile.Reader.runAt r B p = .ok (v, q) → Jvm.ClassFile.Reader.runAt r A (s + p) = .ok (v, s + q)
theorem dw_eb (r : Jvm.ClassFile.Decoder α) (f : α → Jvm.ClassFile.Decoder β) (C : ByteArray) (p : Nat) : Jvm.ClassFile.Reader.runAt (r >>= f) C p = Except.bind (Jvm.ClassFile.Reader.runAt r C p) (fun y => Jvm.ClassFile.Reader.runAt (f y.1) C y.2) := rfl
theorem dw_em (f : α → β) (r : Jvm.ClassFile.Decoder α) (C : ByteArray) (p : Nat) : Jvm.ClassFile.Reader.runAt (f <$> r) C p = Except.bind (Jvm.ClassFile.Reader.runAt r C p) (fun y => .ok (f y.1, y.2)) := rfl
theorem dw_bindN {r : Jvm.ClassFile.Decoder α} {f : α → Jvm.ClassFile.Decoder β} {p p1 q : Nat} {x : α} {v : β} (h1 : dw_L A B s r) (hr : Jvm.ClassFile.Reader.runAt r B p = .ok (x, p1)) (h2 : dw_L A B s (f x)) (h : Jvm.ClassFile.Reader.runAt (r >>= f) B p = .ok (v, q)) : Jvm.ClassFile.Reader.runAt (r >>= f) A (s + p) = .ok (v, s + q) := by
  rw [dw_eb] at h ⊢
  rw [hr] at h
  rw [h1 p x p1 hr]
  exact h2 p1 v q h
theorem dw_bind {r : Jvm.ClassFile.Decoder α} {f : α → Jvm.ClassFile.Decoder β} (h1 : dw_L A B s r) (h2 : ∀ x, dw_L A B s (f x)) : dw_L A B s (r >>= f) := by
  intro p v q h
  cases hr : Jvm.ClassFile.Reader.runAt r B p with
  | error x =>
    rw [dw_eb, hr] at h
    cases h
  | ok y => exact dw_bindN h1 (show Jvm.ClassFile.Reader.runAt r B p = .ok (y.1, y.2) from hr) (h2 y.1) h
theorem dw_map {r : Jvm.ClassFile.Decoder α} (f : α → β) (h1 : dw_L A B s r) : dw_L A B s (f <$> r) := by
  intro p v q h
  cases hr : Jvm.ClassFile.Reader.runAt r B p with
  | error x =>
    rw [dw_em, hr] at h
    cases h
  | ok y =>
    rw [dw_em, hr] at h
    have h : (Except.ok (f y.1, y.2) : Except Jvm.ClassFile.DecodeError (β × Nat)) = .ok (v, q) := h
    cases h
    rw [dw_em, h1 p y.1 y.2 hr]
    rfl
theorem dw_pure (v : α) : dw_L A B s (pure v) := by
  intro p w q h
  have h : (Except.ok (v, p) : Except Jvm.ClassFile.DecodeError (α × Nat)) = .ok (w, q) := h
  cases h
  rfl
theorem dw_throw (e : Jvm.ClassFile.DecodeError) : dw_L A B s (throw e : Jvm.ClassFile.Decoder α) := by
  intro p w q h
  have h : (Except.error e : Except Jvm.ClassFile.DecodeError (α × Nat)) = .ok (w, q) := h
  cases h
theorem dw_e1 (C : ByteArray) (p : Nat) : Jvm.ClassFile.Reader.runAt (Jvm.ClassFile.Reader.u1 : Jvm.ClassFile.Decoder Nat) C p = if h : p < C.size then .ok ((C[p]'h).toNat, p + 1) else .error (.truncated p) := by
  have e : Jvm.ClassFile.Reader.runAt (Jvm.ClassFile.Reader.u1 : Jvm.ClassFile.Decoder Nat) C p = (if h : p < C.size then (do set (p + 1); pure (C[p]'h).toNat : Jvm.ClassFile.Decoder Nat) else throw (Jvm.ClassFile.HasTruncated.truncated p)) C p := rfl
  rw [e]
  split
  · rfl
  · rfl
theorem dw_u1 (hw : dw_ok A B s) : dw_L A B s (Jvm.ClassFile.Reader.u1 : Jvm.ClassFile.Decoder Nat) := by
  intro p v q h
  rw [dw_e1] at h ⊢
  by_cases hp : p < B.size
  · rw [dif_pos hp] at h
    cases h
    have h1 := hw.1
    have h2 : s + p < A.size := by omega
    rw [dif_pos h2, hw.2 p hp h2]
    rfl
  · rw [dif_neg hp] at h
    cases h
theorem dw_u2 (hw : dw_ok A B s) : dw_L A B s (Jvm.ClassFile.Reader.u2 : Jvm.ClassFile.Decoder Nat) := dw_bind (dw_u1 hw) (fun _ => dw_bind (dw_u1 hw) (fun _ => dw_pure _))
theorem dw_u4 (hw : dw_ok A B s) : dw_L A B s (Jvm.ClassFile.Reader.u4 : Jvm.ClassFile.Decoder Nat) := dw_bind (dw_u2 hw) (fun _ => dw_bind (dw_u2 hw) (fun _ => dw_pure _))
theorem dw_s1 (hw : dw_ok A B s) : dw_L A B s (Jvm.ClassFile.Reader.s1 : Jvm.ClassFile.Decoder Int) := dw_map _ (dw_u1 hw)
theorem dw_s2 (hw : dw_ok A B s) : dw_L A B s (Jvm.ClassFile.Reader.s2 : Jvm.ClassFile.Decoder Int) := dw_map _ (dw_u2 hw)
theorem dw_s4 (hw : dw_ok A B s) : dw_L A B s (Jvm.ClassFile.Reader.s4 : Jvm.ClassFile.Decoder Int) := dw_map _ (dw_u4 hw)
theorem dw_na (hw : dw_ok A B s) (pc : Nat) : dw_L A B s (Jvm.ClassFile.Decoder.newarray pc) := by
  refine dw_bind (dw_u1 hw) (fun n => ?_)
  split
  all_goals first | exact dw_pure _ | exact dw_throw _
def dw_bad (n : Nat) : Bool := n == 170 || n == 171 || n == 185 || n == 186 || n == 196 || n == 197
set_option maxRecDepth 100000 in
set_option maxHeartbeats 4000000 in
theorem dw_instr (hw : dw_ok A B s) {pc p q n p1 : Nat} {v : Jvm.ClassFile.Instr} (h0 : Jvm.ClassFile.Reader.runAt (Jvm.ClassFile.Reader.u1 : Jvm.ClassFile.Decoder Nat) B p = .ok (n, p1)) (hb : dw_bad n = false) (h : Jvm.ClassFile.Reader.runAt (Jvm.ClassFile.Decoder.instr pc) B p = .ok (v, q)) : Jvm.ClassFile.Reader.runAt (Jvm.ClassFile.Decoder.instr pc) A (s + p) = .ok (v, s + q) := by
  unfold Jvm.ClassFile.Decoder.instr at h ⊢
  refine dw_bindN (dw_u1 hw) h0 ?_ h
  split
  all_goals first
    | exact dw_pure _
    | exact dw_bind (dw_u2 hw) (fun _ => dw_pure _)
    | exact dw_bind (dw_u1 hw) (fun _ => dw_pure _)
    | exact dw_bind (dw_s2 hw) (fun _ => dw_pure _)
    | exact dw_bind (dw_s1 hw) (fun _ => dw_pure _)
    | exact dw_bind (dw_s4 hw) (fun _ => dw_pure _)
    | exact dw_bind (dw_u1 hw) (fun _ => dw_bind (dw_s1 hw) (fun _ => dw_pure _))
    | exact dw_na hw _
    | exact dw_throw _
    | exact absurd hb (by decide)
theorem dw_row (hw : dw_ok A B s) {pc p n m : Nat} {i : Jvm.ClassFile.Instr} (hp : s + p = pc) (h1 : ∀ y, Jvm.ClassFile.Reader.runAt (Jvm.ClassFile.Reader.u1 : Jvm.ClassFile.Decoder Nat) B p = .ok y → dw_bad y.1 = false) (h2 : Jvm.ClassFile.Reader.runAt (Jvm.ClassFile.Decoder.instr pc) B p = .ok (i, m)) (hm : m = p + n) : Jvm.ClassFile.decode A pc = .ok (i, n) := by
  subst hm
  have e : Jvm.ClassFile.Reader.runAt (Jvm.ClassFile.Decoder.instr pc) A (s + p) = .ok (i, s + (p + n)) := by
    cases h0 : Jvm.ClassFile.Reader.runAt (Jvm.ClassFile.Reader.u1 : Jvm.ClassFile.Decoder Nat) B p with
    | error x =>
      have h3 := h2
      unfold Jvm.ClassFile.Decoder.instr at h3
      rw [dw_eb, h0] at h3
      cases h3
    | ok y => exact dw_instr (n := y.1) (p1 := y.2) hw h0 (h1 y h0) h2
  rw [hp] at e
  have e2 : Jvm.ClassFile.decode A pc = Except.bind (Jvm.ClassFile.Reader.runAt (Jvm.ClassFile.Decoder.instr pc) A pc) (fun y => .ok (y.1, y.2 - pc)) := rfl
  rw [e2, e]
  show Except.ok (i, s + (p + n) - pc) = _
  rw [show s + (p + n) - pc = n by omega]
/-- both facts of a row in one decision -/
def dw_b (B : ByteArray) (pc p : Nat) (i : Jvm.ClassFile.Instr) (m : Nat) : Bool := (match Jvm.ClassFile.Reader.runAt (Jvm.ClassFile.Reader.u1 : Jvm.ClassFile.Decoder Nat) B p with
  | .ok y => !dw_bad y.1
  | .error _ => true) && decide (Jvm.ClassFile.Reader.runAt (Jvm.ClassFile.Decoder.instr pc) B p = .ok (i, m))
theorem dw_at (hw : dw_ok A B s) {pc p n : Nat} {i : Jvm.ClassFile.Instr} (hp : s + p = pc) (h : dw_b B pc p i (p + n) = true) : Jvm.ClassFile.decode A pc = .ok (i, n) := by
  unfold dw_b at h
  rw [Bool.and_eq_true, decide_eq_true_eq] at h
  refine dw_row hw hp (fun y hy => ?_) h.2 rfl
  have h1 := h.1
  rw [hy] at h1
  have h1 : (!dw_bad y.1) = true := h1
  cases hb : dw_bad y.1 with
  | false => rfl
  | true =>
    rw [hb] at h1
    cases h1
/-- windows out of a list -/
theorem dw_win {la lb : List UInt8} (h : la.drop s = lb ++ la.drop (s + lb.length)) (hl : s + lb.length ≤ la.length) : dw_ok (ByteArray.mk la.toArray) (ByteArray.mk lb.toArray) s := by
  have sz : ∀ (l : List UInt8), (ByteArray.mk l.toArray).size = l.length := fun l => by
    show l.toArray.size = l.length
    simp
  refine ⟨by rw [sz, sz]; exact hl, fun i h1 h2 => ?_⟩
  rw [sz] at h1
  have h3 : s + i < la.length := by omega
  have e1 : (ByteArray.mk la.toArray)[s + i]'h2 = la[s + i] := by
    show la.toArray[s + i] = _
    simp
  have e2 : (ByteArray.mk lb.toArray)[i]'(by rw [sz]; exact h1) = lb[i] := by
    show lb.toArray[i] = _
    simp
  rw [e1, e2]
  have h4 : (la.drop s)[i]? = some lb[i] := by
    rw [h, List.getElem?_append_left h1]
    exact List.getElem?_eq_getElem h1
  rw [List.getElem?_drop, List.getElem?_eq_getElem h3] at h4
  exact Option.some.inj h4
end DEC
/-! windows of a code -/
section DWS
variable {A : ByteArray} {s : Nat} {w : List UInt8}
/-- a window by one comparison -/
def dw_D (A : ByteArray) (s : Nat) (w : List UInt8) : Bool := !w.isEmpty && decide ((A.data.toList.drop s).take w.length = w)
theorem dw_winD (h : dw_D A s w = true) : dw_ok A (ByteArray.mk w.toArray) s := by
  unfold dw_D at h
  rw [Bool.and_eq_true, decide_eq_true_eq, Bool.not_eq_true'] at h
  obtain ⟨h1, h2⟩ := h
  have hA : A = ByteArray.mk A.data.toList.toArray := by
    cases A with
    | mk d =>
      show ByteArray.mk d = ByteArray.mk d.toList.toArray
      simp
  generalize A.data.toList = la at h2 hA
  have hl : w.length ≤ (la.drop s).length := by
    have := congrArg List.length h2
    rw [List.length_take] at this
    omega
  have hp : 0 < w.length := by
    cases w with
    | nil => exact absurd h1 (by decide)
    | cons a t => exact Nat.succ_pos _
  rw [List.length_drop] at hl
  rw [hA]
  refine dw_win ?_ (by omega)
  rw [← List.drop_drop]
  have h3 := List.take_append_drop w.length (la.drop s)
  rw [h2] at h3
  exact h3.symm
end DWS
/-! no number twice: by one number's bits -/
def ndB : List Nat → Nat → Bool
  | [], _ => true
  | x :: t, a => !a.testBit x && ndB t (a ||| 2 ^ x)
theorem ndB_ok : ∀ (l : List Nat) (a : Nat), ndB l a = true → l.Nodup ∧ ∀ x, x ∈ l → a.testBit x = false := by
  intro l
  induction l with
  | nil =>
    intro a _
    exact ⟨List.nodup_nil, fun x hx => absurd hx List.not_mem_nil⟩
  | cons y t ih =>
    intro a h
    have h : (!a.testBit y && ndB t (a ||| 2 ^ y)) = true := h
    rw [Bool.and_eq_true, Bool.not_eq_true'] at h
    obtain ⟨h1, h2⟩ := ih _ h.2
    refine ⟨List.nodup_cons.mpr ⟨fun hy => ?_, h1⟩, fun x hx => ?_⟩
    · have h3 := h2 y hy
      rw [Nat.testBit_or, Nat.testBit_two_pow_self, Bool.or_true] at h3
      cases h3
    · rcases List.mem_cons.mp hx with rfl | hx
      · exact h.1
      · have h3 := h2 x hx
        rw [Nat.testBit_or, Bool.or_eq_false_iff] at h3
        exact h3.1
theorem ndB_nd {l : List Nat} (h : ndB l 0 = true) : l.Nodup := (ndB_ok l 0 h).1
