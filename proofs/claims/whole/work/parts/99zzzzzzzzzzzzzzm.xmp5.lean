/-! maps: the reference follows what is given -/
def opM (m : Nat) (s : Bool) (o p : Nat) : Nat := if s = true then bkM m o p else dnM m o p
def gIB (m o p : Nat) : Bool := decide (bkM m o (dnM m o p) = p) && decide (dnM m o (bkM m o p) = p)
theorem ib_1 : ∀ o : Fin 1, ∀ p : Fin 1, gIB 1 o.val p.val = true := by decide +kernel
theorem ib_2 : ∀ o : Fin 2, ∀ p : Fin 2, gIB 2 o.val p.val = true := by decide +kernel
theorem ib_3 : ∀ o : Fin 6, ∀ p : Fin 6, gIB 3 o.val p.val = true := by decide +kernel
theorem ib_4 : ∀ o : Fin 24, ∀ p : Fin 24, gIB 4 o.val p.val = true := by decide +kernel
theorem ib_n {m o p : Nat} (h1 : 1 ≤ m) (h4 : m ≤ 4) (ho : o < thM m) (hp : p < thM m) (s : Bool) : opM m (!s) o (opM m s o p) = p ∧ opM m s o p < thM m := by
  have k : gIB m o p = true := by
    have : m = 1 ∨ m = 2 ∨ m = 3 ∨ m = 4 := by omega
    rcases this with rfl | rfl | rfl | rfl
    · exact ib_1 ⟨o, ho⟩ ⟨p, hp⟩
    · exact ib_2 ⟨o, ho⟩ ⟨p, hp⟩
    · exact ib_3 ⟨o, ho⟩ ⟨p, hp⟩
    · exact ib_4 ⟨o, ho⟩ ⟨p, hp⟩
  unfold gIB at k
  simp only [Bool.and_eq_true, decide_eq_true_eq] at k
  have b := (ac_n (m := m) (o := o) (x := p) (w := p) h1 h4 ho hp hp).2.2
  cases s
  · exact ⟨k.1, b.1⟩
  · exact ⟨k.2, b.2⟩
/-- the arcs, the part, the tables -/
def arX (y : ow_MS) (c a : Nat) (ov iv fv : Nat → Nat) : Prop := ∀ x, x < c → (y.2.1 61 x = nI (ov x) ∧ ov x < a) ∧ (y.2.1 62 x = nI (iv x) ∧ iv x < a) ∧ y.2.1 63 x = nI (fv x) ∧ fv x < a
def pY9 (y : ow_MS) (c : Nat) (pt : Nat → Bool) : Prop := ∀ x, x < c → y.2.1 80 x = bI9 (pt x)
def mcX (y : ow_MS) (n m : Nat) (A : rn_L) (sg : Nat → Bool) (c a : Nat) (ov iv fv : Nat → Nat) (pt : Nat → Bool) : Prop := oNet y n A sg ∧ arX y c a ov iv fv ∧ e75 y m (thM m) 0 ∧ pY9 y c pt
def usP (c : Nat) (ov iv fv : Nat → Nat) (pt : Nat → Bool) (b : Nat) : Prop := ∃ x, x < c ∧ pt x = true ∧ (b = ov x ∨ b = iv x ∨ b = fv x)
def slM (m c a : Nat) (sg : Nat → Bool) (ov iv fv : Nat → Nat) (pt : Nat → Bool) (L : List Nat) : Prop := L.length = a ∧ (∀ b q, L[b]? = some q → q < thM m ∧ (¬ usP c ov iv fv pt b → q = 0)) ∧ ∀ x, x < c → pt x = true → ∀ o i j, L[ov x]? = some o → L[iv x]? = some i → L[fv x]? = some j → j = opM m (sg x) o i
def exT (y : ow_MS) (m : Nat) (T L : List Nat) : Prop := ∀ b q, b ∈ T → q < thM m → y.2.1 77 b = nI q → L[b]? = some q
def clX (y : ow_MS) (m : Nat) (sg : Nat → Bool) (ov iv fv : Nat → Nat) (pt : Nat → Bool) (U : List Nat) (x : Nat) : Prop := pt x = true → ov x ∈ U → (iv x ∈ U ↔ fv x ∈ U) ∧ ∀ o i j, o < thM m → i < thM m → j < thM m → iv x ∈ U → y.2.1 77 (ov x) = nI o → y.2.1 77 (iv x) = nI i → y.2.1 77 (fv x) = nI j → j = opM m (sg x) o i
section XM5
variable {z : ow_MS}
theorem mcX_fr {n m c a : Nat} {y y1 : ow_MS} {A : rn_L} {sg : Nat → Bool} {ov iv fv : Nat → Nat} {pt : Nat → Bool} (hn : mw_net n) (hf : fr gvH y y1) (h : mcX y n m A sg c a ov iv fv pt) : mcX y1 n m A sg c a ov iv fv pt := by
  have no : ∀ g, ¬ (77 ≤ g ∧ g ≤ 79) → ¬ gvH g := fun g hg => hg
  refine ⟨oNet_fr hf (fun g hg => by have := net_mod hn; unfold gvH at hg; omega) h.1, fun x hx => ?_, fun o x ho hx hl => ?_, fun x hx => ?_⟩
  · rw [(hf 61 (no _ (by omega))).2.1, (hf 62 (no _ (by omega))).2.1, (hf 63 (no _ (by omega))).2.1]
    exact h.2.1 x hx
  · rw [(hf 75 (no _ (by omega))).2.1, (hf 76 (no _ (by omega))).2.1]
    exact h.2.2.1 o x ho hx hl
  · rw [(hf 80 (no _ (by omega))).2.1]
    exact h.2.2.2 x hx
theorem exT_g {y y1 : ow_MS} {m b q : Nat} {T L : List Nat} (hq : q < thM m) (h1 : y1.2.1 77 b = nI q) (h2 : ∀ b', b' ≠ b → y1.2.1 77 b' = y.2.1 77 b') (hb : L[b]? = some q) (h : exT y m T L) : exT y1 m (T ++ [b]) L := fun b' q' hb' hq' e => by
  have := (thM_le m).2
  by_cases c : b' = b
  · rw [c, h1] at e
    rw [c, ← nI_inj9 (by omega) (by omega) e]
    exact hb
  · rw [h2 b' c] at e
    rcases List.mem_append.mp hb' with h9 | h9
    · exact h b' q' h9 hq' e
    · exact absurd (List.mem_singleton.mp h9) c
end XM5
