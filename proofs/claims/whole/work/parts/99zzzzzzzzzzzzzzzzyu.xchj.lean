-- CHAIN: the cube of a list of components
def gV9 (p : vT) : Nat := 2 * p.1 + p.2
noncomputable def prA9 (A : rn_L) (p : vT) : vT := @dite _ (∃ q, ∃ L, L ∈ A ∧ q ∈ L ∧ sc L q = p) (Classical.propDecidable _) (fun h => h.choose) (fun _ => p)
/-- the least likeness with these pairs -/
def lst9 (Pr : Nat → Nat → Prop) (g h : Nat) : Prop := ∀ E : Nat → Nat → Prop, eqv9 E → (∀ a b, Pr a b → E a b) → E g h
section XCHS
variable {A : rn_L} {L : List vT} {p q : vT} {Pr Pr' : Nat → Nat → Prop}
theorem gA_inj (hp : p.2 < 2) (hq : q.2 < 2) (e : gV9 p = gV9 q) : p = q := by
  unfold gV9 at e
  exact Prod.ext (by omega) (by omega)
theorem prA_of (hn : A.flatten.Nodup) (hL : L ∈ A) (hp : p ∈ L) : prA9 A p ∈ L ∧ sc L (prA9 A p) = p := by
  obtain ⟨q, q1, q2⟩ := sc_pre (L_nd hn hL) hp
  have ex : ∃ q, ∃ L, L ∈ A ∧ q ∈ L ∧ sc L q = p := ⟨q, L, hL, q1, q2⟩
  have e : prA9 A p = ex.choose := dif_pos ex
  obtain ⟨L', a1, a2, a3⟩ := ex.choose_spec
  have e2 : L' = L := same_L hn hL a1 hp (by rw [← a3]; exact sc_in a2 (L_nd hn a1))
  rw [e2] at a2 a3
  rw [e]
  exact ⟨a2, a3⟩
theorem prA_in (hn : A.flatten.Nodup) (hp : p ∈ A.flatten) : prA9 A p ∈ A.flatten := by
  obtain ⟨L, hL, h1⟩ := List.mem_flatten.mp hp
  exact List.mem_flatten.mpr ⟨L, hL, (prA_of hn hL h1).1⟩
theorem prA_eq (hn : A.flatten.Nodup) (hL : L ∈ A) (hq : q ∈ L) (e : sc L q = p) : prA9 A p = q := by
  have hp : p ∈ L := by rw [← e]; exact sc_in hq (L_nd hn hL)
  obtain ⟨a1, a2⟩ := prA_of hn hL hp
  exact sc_inj (L_nd hn hL) a1 hq (a2.trans e.symm)
theorem lst_e (Pr : Nat → Nat → Prop) : eqv9 (lst9 Pr) := ⟨fun g E hE _ => hE.1 g, fun g h h1 E hE hP => hE.2.1 _ _ (h1 E hE hP), fun g h k h1 h2 E hE hP => hE.2.2 _ _ _ (h1 E hE hP) (h2 E hE hP)⟩
theorem lst_i {a b : Nat} (h : Pr a b) : lst9 Pr a b := fun _ _ hP => hP a b h
theorem lst_m {g h : Nat} (h1 : ∀ a b, Pr a b → lst9 Pr' a b) (h2 : lst9 Pr g h) : lst9 Pr' g h := h2 _ (lst_e Pr') h1
theorem lst_iff (h1 : ∀ a b, Pr a b → lst9 Pr' a b) (h2 : ∀ a b, Pr' a b → lst9 Pr a b) (g h : Nat) : lst9 Pr g h ↔ lst9 Pr' g h := ⟨lst_m h1, lst_m h2⟩
/-- pulled back along a map -/
theorem eqv_pb {E : Nat → Nat → Prop} (hE : eqv9 E) (ψ : Nat → Nat) : eqv9 (fun g h => E (ψ g) (ψ h)) := ⟨fun g => hE.1 _, fun g h => hE.2.1 _ _, fun g h k => hE.2.2 _ _ _⟩
end XCHS
/-- what crossing y joins in state s -/
def jc9 (A : rn_L) (sg : Nat → Bool) (x : Nat) (t : Bool) (a b : Nat) : Prop := (sg x = t ∧ ((a = gV9 (prA9 A (x, 0)) ∧ b = gV9 (x, 1)) ∨ (a = gV9 (x, 0) ∧ b = gV9 (prA9 A (x, 1))))) ∨ (sg x ≠ t ∧ ((a = gV9 (prA9 A (x, 0)) ∧ b = gV9 (prA9 A (x, 1))) ∨ (a = gV9 (x, 0) ∧ b = gV9 (x, 1))))
def jp9 (A : rn_L) (sg : Nat → Bool) (nm : Nat → Nat) (c : Nat) (s : Nat → Bool) (a b : Nat) : Prop := ∃ y, y < c ∧ jc9 A sg (nm y) (s y) a b
def relL9 (A : rn_L) (sg : Nat → Bool) (nm : Nat → Nat) (c : Nat) (s : Nat → Bool) : Nat → Nat → Prop := lst9 (jp9 A sg nm c s)
def gG9 (A : rn_L) (g : Nat) : Prop := (∃ p, p ∈ A.flatten ∧ g = gV9 p) ∨ ∃ i, i < A.length ∧ A[i]? = some [] ∧ g = 1000 + i
/-- the numbers of the crossings of A -/
def nmO (A : rn_L) (nm : Nat → Nat) (c : Nat) : Prop := (∀ y, y < c → (nm y, 0) ∈ A.flatten ∧ (nm y, 1) ∈ A.flatten) ∧ (∀ y y', y < c → y' < c → nm y = nm y' → y = y') ∧ ∀ p, p ∈ A.flatten → ∃ y, y < c ∧ nm y = p.1
section XCHT
variable {A : rn_L} {sg : Nat → Bool} {f nm : Nat → Nat} {T : ow_NT} {s : Nat → Bool} {p q : vT} {c : Nat}
theorem jc_in {x : Nat} {t : Bool} {a b : Nat} (hn : A.flatten.Nodup) (h0 : (x, 0) ∈ A.flatten) (h1 : (x, 1) ∈ A.flatten) (h : jc9 A sg x t a b) : (∃ p, p ∈ A.flatten ∧ a = gV9 p) ∧ ∃ p, p ∈ A.flatten ∧ b = gV9 p := by
  have q0 := prA_in hn h0
  have q1 := prA_in hn h1
  rcases h with ⟨-, ⟨e1, e2⟩ | ⟨e1, e2⟩⟩ | ⟨-, ⟨e1, e2⟩ | ⟨e1, e2⟩⟩
  · exact ⟨⟨_, q0, e1⟩, _, h1, e2⟩
  · exact ⟨⟨_, h0, e1⟩, _, q1, e2⟩
  · exact ⟨⟨_, q0, e1⟩, _, q1, e2⟩
  · exact ⟨⟨_, h0, e1⟩, _, h1, e2⟩
theorem relL_out {g h : Nat} (hn : A.flatten.Nodup) (hm : nmO A nm c) (h1 : relL9 A sg nm c s g h) : g = h ∨ ((∃ p, p ∈ A.flatten ∧ g = gV9 p) ∧ ∃ p, p ∈ A.flatten ∧ h = gV9 p) := by
  refine h1 (fun g h => g = h ∨ ((∃ p, p ∈ A.flatten ∧ g = gV9 p) ∧ ∃ p, p ∈ A.flatten ∧ h = gV9 p)) ⟨fun g => Or.inl rfl, fun g h h9 => ?_, fun g h k h9 h8 => ?_⟩ (fun a b ⟨y, y1, y2⟩ => ?_)
  · rcases h9 with h9 | h9
    · exact Or.inl h9.symm
    · exact Or.inr ⟨h9.2, h9.1⟩
  · rcases h9 with h9 | h9
    · rw [h9]
      exact h8
    · rcases h8 with h8 | h8
      · rw [← h8]
        exact Or.inr h9
      · exact Or.inr ⟨h9.1, h8.2⟩
  · exact Or.inr (jc_in hn (hm.1 y y1).1 (hm.1 y y1).2 y2)
/-- the numbers of a net that shows A -/
def nmT (A : rn_L) (f nm : Nat → Nat) (c : Nat) : Prop := ∀ y, y < c → f (nm y) = y ∧ (nm y, 0) ∈ A.flatten
theorem nm_f (h : isoV A sg f T) (hm : nmT A f nm T.1) (hp : p ∈ A.flatten) : nm (f p.1) = p.1 := by
  have h4 := h.1.2.2.2.1 p hp
  obtain ⟨a, b⟩ := hm _ h4
  exact h.1.2.2.2.2.1 _ p b hp a
theorem nm_O (h : isoV A sg f T) (hm : nmT A f nm T.1) : nmO A nm T.1 := by
  refine ⟨fun y hy => ⟨(hm y hy).2, (h.1.1.2 _ (hm y hy).2).2.2⟩, fun y y' hy hy' e => ?_, fun p hp => ⟨f p.1, h.1.2.2.2.1 p hp, nm_f h hm hp⟩⟩
  rw [← (hm y hy).1, e, (hm y' hy').1]
theorem pv_gl (h : isoV A sg f T) (hp : p ∈ A.flatten) : T.2.2.1.2 (gl f p) = gl f (prA9 A p) := by
  obtain ⟨L, hL, h1⟩ := List.mem_flatten.mp hp
  obtain ⟨a1, a2⟩ := prA_of h.1.1.1 hL h1
  have := (h.2 L hL _ a1).2
  rw [a2] at this
  exact this
theorem al_sg (h : isoV A sg f T) (hz : ∀ x, x < T.1 → T.2.2.2 x ≠ 0) (hm : nmT A f nm T.1) {y : Nat} (hy : y < T.1) : alB T.2.2.2 s y = decide (sg (nm y) = s y) := by
  obtain ⟨e, m⟩ := hm y hy
  have h7 := h.1.2.2.2.2.2.2.1 _ m
  have h7 : T.2.2.2 (f (nm y)) < 0 ↔ sg (nm y) = true := h7
  rw [e] at h7
  have z := hz y hy
  unfold alB sgP
  by_cases c : sg (nm y) = true
  · have := h7.mpr c
    have np : ¬ 0 < T.2.2.2 y := fun h9 => by
      rw [Int32.lt_iff_toInt_lt] at this h9
      simp at this h9
      omega
    rw [decide_eq_false np, c]
    cases s y <;> rfl
  · have np : 0 < T.2.2.2 y := by
      have n1 : ¬ T.2.2.2 y < 0 := fun h9 => c (h7.mp h9)
      rw [Int32.lt_iff_toInt_lt] at n1 ⊢
      have z2 : (T.2.2.2 y).toInt ≠ 0 := fun h9 => z (Int32.toInt_inj.mp (by rw [h9]; rfl))
      simp at n1 ⊢
      omega
    rw [decide_eq_true np, ff_of c]
    cases s y <;> rfl
theorem jn_T (h : isoV A sg f T) (hz : ∀ x, x < T.1 → T.2.2.2 x ≠ 0) (hm : nmT A f nm T.1) {y : Nat} (hy : y < T.1) : (sg (nm y) = s y → egp T.2.2.1 (toI T.2.2.2 s y) = gl f (nm y, 1) ∧ egp T.2.2.1 (toO T.2.2.2 s y) = gl f (prA9 A (nm y, 1))) ∧ (sg (nm y) ≠ s y → egp T.2.2.1 (toI T.2.2.2 s y) = gl f (prA9 A (nm y, 1)) ∧ egp T.2.2.1 (toO T.2.2.2 s y) = gl f (nm y, 1)) ∧ egp T.2.2.1 (4 * y + 1) = gl f (prA9 A (nm y, 0)) ∧ egp T.2.2.1 (4 * y) = gl f (nm y, 0) := by
  obtain ⟨e, m0⟩ := hm y hy
  have m1 : (nm y, 1) ∈ A.flatten := (h.1.1.2 _ m0).2.2
  have g0 : gl f (nm y, 0) = 2 * y := by
    show 2 * f (nm y) + 0 = _
    rw [e]
    rfl
  have g1 : gl f (nm y, 1) = 2 * y + 1 := by
    show 2 * f (nm y) + 1 = _
    rw [e]
  have v0 := pv_gl h m0
  have v1 := pv_gl h m1
  rw [g0] at v0
  rw [g1] at v1
  have e1 : egp T.2.2.1 (4 * y + 1) = T.2.2.1.2 (2 * y) := by
    unfold egp
    rw [if_neg (by omega), show (4 * y + 1) / 2 = 2 * y by omega]
  have e0 : egp T.2.2.1 (4 * y) = 2 * y := by
    unfold egp
    rw [if_pos (by omega), show 4 * y / 2 = 2 * y by omega]
  have e2 : egp T.2.2.1 (4 * y + 2) = 2 * y + 1 := by
    unfold egp
    rw [if_pos (by omega), show (4 * y + 2) / 2 = 2 * y + 1 by omega]
  have e3 : egp T.2.2.1 (4 * y + 3) = T.2.2.1.2 (2 * y + 1) := by
    unfold egp
    rw [if_neg (by omega), show (4 * y + 3) / 2 = 2 * y + 1 by omega]
  have al := al_sg (s := s) h hz hm hy
  refine ⟨fun c => ?_, fun c => ?_, by rw [e1, v0], by rw [e0, g0]⟩
  · unfold toI toO
    rw [al, decide_eq_true c, if_pos rfl, if_pos rfl, e2, e3, g1, v1]
    exact ⟨rfl, rfl⟩
  · unfold toI toO
    rw [al, decide_eq_false c, if_neg (by decide), if_neg (by decide), e2, e3, g1, v1]
    exact ⟨rfl, rfl⟩
theorem relL_T (h : isoV A sg f T) (hz : ∀ x, x < T.1 → T.2.2.2 x ≠ 0) (hm : nmT A f nm T.1) (hp : p ∈ A.flatten) (hq : q ∈ A.flatten) : relL9 A sg nm T.1 s (gV9 p) (gV9 q) ↔ rt (uPx T.2.2.1 T.2.2.2 s T.1) (gl f p) = rt (uPx T.2.2.1 T.2.2.2 s T.1) (gl f q) := by
  have u2 : ∀ p, p ∈ A.flatten → p.2 < 2 := fun p hp => (h.1.1.2 p hp).2.1
  have hn := h.1.1.1
  constructor
  · intro h1
    have key := h1 (fun g h => g = h ∨ ∃ p q, p ∈ A.flatten ∧ q ∈ A.flatten ∧ g = gV9 p ∧ h = gV9 q ∧ rt (uPx T.2.2.1 T.2.2.2 s T.1) (gl f p) = rt (uPx T.2.2.1 T.2.2.2 s T.1) (gl f q)) ⟨fun g => Or.inl rfl, fun g k h9 => ?_, fun g k l h9 h8 => ?_⟩ (fun a b ⟨y, y1, y2⟩ => ?_)
    · rcases key with e | ⟨p', q', a1, a2, a3, a4, a5⟩
      · rw [gA_inj (u2 p hp) (u2 q hq) e]
      · rw [gA_inj (u2 p hp) (u2 p' a1) a3, gA_inj (u2 q hq) (u2 q' a2) a4]
        exact a5
    · rcases h9 with e | ⟨p', q', a1, a2, a3, a4, a5⟩
      · exact Or.inl e.symm
      · exact Or.inr ⟨q', p', a2, a1, a4, a3, a5.symm⟩
    · rcases h9 with e | ⟨p', q', a1, a2, a3, a4, a5⟩
      · rw [e]
        exact h8
      · rcases h8 with e | ⟨p2, q2, b1, b2, b3, b4, b5⟩
        · rw [← e]
          exact Or.inr ⟨p', q', a1, a2, a3, a4, a5⟩
        · refine Or.inr ⟨p', q2, a1, b2, a3, b4, ?_⟩
          rw [a5, gA_inj (u2 q' a2) (u2 p2 b1) (a4.symm.trans b3)]
          exact b5
    · obtain ⟨j1, j2⟩ := uPx_j (S := T.2.2.1) (G := T.2.2.2) (b := s) T.1 y y1
      obtain ⟨t1, t2, t3, t4⟩ := jn_T (s := s) h hz hm y1
      have m0 := (hm y y1).2
      have m1 : (nm y, 1) ∈ A.flatten := (h.1.1.2 _ m0).2.2
      have q0 := prA_in hn m0
      have q1 := prA_in hn m1
      rw [t3] at j1
      rw [t4] at j2
      rcases y2 with ⟨c, y2⟩ | ⟨c, y2⟩
      · rw [(t1 c).1] at j1
        rw [(t1 c).2] at j2
        rcases y2 with ⟨e1, e2⟩ | ⟨e1, e2⟩
        · exact Or.inr ⟨_, _, q0, m1, e1, e2, j1⟩
        · exact Or.inr ⟨_, _, m0, q1, e1, e2, j2⟩
      · rw [(t2 c).1] at j1
        rw [(t2 c).2] at j2
        rcases y2 with ⟨e1, e2⟩ | ⟨e1, e2⟩
        · exact Or.inr ⟨_, _, q0, q1, e1, e2, j1⟩
        · exact Or.inr ⟨_, _, m0, m1, e1, e2, j2⟩
  · intro h1
    have hR := lst_e (jp9 A sg nm T.1 s)
    have ch : ∀ v : Nat, ∃ l, ld9 (relL9 A sg nm T.1 s) (fun _ => True) l ∧ relL9 A sg nm T.1 s l (gV9 (nm (v / 2), v % 2)) := fun v => by
      obtain ⟨l, l1, l2, -⟩ := ld_ex (G := fun _ => True) hR (gV9 (nm (v / 2), v % 2)) trivial
      exact ⟨l, l1, l2⟩
    have gf : ∀ p, p ∈ A.flatten → gV9 (nm (gl f p / 2), gl f p % 2) = gV9 p := fun p hp => by
      have := u2 p hp
      have e1 : gl f p / 2 = f p.1 := by
        unfold gl
        omega
      have e2 : gl f p % 2 = p.2 := by
        unfold gl
        omega
      rw [e1, e2, nm_f h hm hp]
    have me : ∀ p q, p ∈ A.flatten → q ∈ A.flatten → (relL9 A sg nm T.1 s (gV9 p) (gV9 q) ↔ (ch (gl f p)).choose = (ch (gl f q)).choose) := fun p q hp hq => by
      obtain ⟨a1, a2⟩ := (ch (gl f p)).choose_spec
      obtain ⟨b1, b2⟩ := (ch (gl f q)).choose_spec
      have t3 : ∀ r, r ∈ A.flatten → ∀ l, relL9 A sg nm T.1 s l (gV9 (nm (gl f r / 2), gl f r % 2)) → relL9 A sg nm T.1 s l (gV9 r) := fun r hr l h9 => by
        rw [gf r hr] at h9
        exact h9
      have a2 := t3 p hp _ a2
      have b2 := t3 q hq _ b2
      constructor
      · intro h9
        exact ld_un hR a1 b1 (hR.2.2 _ _ _ a2 (hR.2.2 _ _ _ h9 (hR.2.1 _ _ b2)))
      · intro h9
        rw [h9] at a2
        exact hR.2.2 _ _ _ (hR.2.1 _ _ a2) b2
    refine (me p q hp hq).mpr (uPx_min (M := fun v => (ch v).choose) (S := T.2.2.1) (G := T.2.2.2) (b := s) (isoV_vn h) (fun y y1 => ?_) T.1 (Nat.le_refl _) _ _ (gl_lt h hp) (gl_lt h hq) h1)
    obtain ⟨t1, t2, t3, t4⟩ := jn_T (s := s) h hz hm y1
    have m0 := (hm y y1).2
    have m1 : (nm y, 1) ∈ A.flatten := (h.1.1.2 _ m0).2.2
    have q0 := prA_in hn m0
    have q1 := prA_in hn m1
    rw [t3, t4]
    by_cases c : sg (nm y) = s y
    · rw [(t1 c).1, (t1 c).2]
      exact ⟨(me _ _ q0 m1).mp (lst_i ⟨y, y1, Or.inl ⟨c, Or.inl ⟨rfl, rfl⟩⟩⟩), (me _ _ m0 q1).mp (lst_i ⟨y, y1, Or.inl ⟨c, Or.inr ⟨rfl, rfl⟩⟩⟩)⟩
    · rw [(t2 c).1, (t2 c).2]
      exact ⟨(me _ _ q0 q1).mp (lst_i ⟨y, y1, Or.inr ⟨c, Or.inl ⟨rfl, rfl⟩⟩⟩), (me _ _ m0 m1).mp (lst_i ⟨y, y1, Or.inr ⟨c, Or.inr ⟨rfl, rfl⟩⟩⟩)⟩
/-- the cube of a list -/
theorem cuL {w : vT → Bool} (h : isoV A sg f T) (hz : ∀ x, x < T.1 → T.2.2.2 x ≠ 0) (hw : gaA A w) (hm : nmT A f nm T.1) (hl : A.length ≤ 900) : cu9 T.1 2000 (gG9 A) (fun y => gV9 (nm y, 0)) (fun y => gV9 (prA9 A (nm y, 0))) (fun y => gV9 (prA9 A (nm y, 0))) (relL9 A sg nm T.1) := by
  have hn := h.1.1.1
  have hO := nm_O h hm
  obtain ⟨w', hw'⟩ := gaT_of h hw
  have hv := isoV_vn h
  refine ⟨⟨fun s => lst_e _, fun s x hx hs => ?_⟩, fun s _ g k h1 hne => ?_, fun g hg => ?_, fun x hx => ?_⟩
  · have m0 := (hO.1 x hx).1
    have q0 := prA_in hn m0
    have e0 : gl f (nm x, 0) = 2 * x := by
      show 2 * f (nm x) + 0 = _
      rw [(hm x hx).1]
      rfl
    have e1 : gl f (prA9 A (nm x, 0)) = T.2.2.1.2 (2 * x) := by
      rw [← e0]
      exact (pv_gl h m0).symm
    have es : seB s x true = on9 s x := rfl
    -- one state's loops out of the other's
    have tr : ∀ s t : Nat → Bool, mgX T.2.2.1 T.1 x (uPx T.2.2.1 T.2.2.2 s T.1) (uPx T.2.2.1 T.2.2.2 t T.1) → ¬ relL9 A sg nm T.1 s (gV9 (nm x, 0)) (gV9 (prA9 A (nm x, 0))) ∧ ∀ g k, relL9 A sg nm T.1 t g k ↔ adr (relL9 A sg nm T.1 s) (gV9 (nm x, 0)) (gV9 (prA9 A (nm x, 0))) g k := fun s t hmg => by
      obtain ⟨k1, k2, -⟩ := hmg
      rw [← e1, ← e0] at k1
      refine ⟨fun h9 => k1 ((relL_T h hz hm m0 q0).mp h9), fun g k => ?_⟩
      have hs := lst_e (jp9 A sg nm T.1 s)
      constructor
      · intro h9
        rcases relL_out hn hO h9 with e | ⟨⟨p, p1, p2⟩, q, q1, q2⟩
        · rw [e]
          exact Or.inl (hs.1 k)
        · rw [p2, q2] at h9 ⊢
          have h9 := (relL_T h hz hm p1 q1).mp h9
          rw [k2 _ _ (gl_lt h p1) (gl_lt h q1), ← e1, ← e0] at h9
          rcases h9 with h9 | ⟨h9 | h9, h8 | h8⟩
          · exact Or.inl ((relL_T h hz hm p1 q1).mpr h9)
          · exact Or.inl ((relL_T h hz hm p1 q1).mpr (h9.trans h8.symm))
          · exact Or.inr (Or.inl ⟨(relL_T h hz hm p1 m0).mpr h9, (relL_T h hz hm q1 q0).mpr h8⟩)
          · exact Or.inr (Or.inr ⟨(relL_T h hz hm p1 q0).mpr h9, (relL_T h hz hm q1 m0).mpr h8⟩)
          · exact Or.inl ((relL_T h hz hm p1 q1).mpr (h9.trans h8.symm))
      · -- a gap joined with a visit's gap is a visit's gap
        have vis : ∀ g a, (∃ p, p ∈ A.flatten ∧ a = gV9 p) → relL9 A sg nm T.1 s g a → ∃ p, p ∈ A.flatten ∧ g = gV9 p := fun g a ha h9 => by
          rcases relL_out hn hO h9 with e | ⟨e, -⟩
          · rw [e]
            exact ha
          · exact e
        intro h9
        have lift : ∀ p q, p ∈ A.flatten → q ∈ A.flatten → (rt (uPx T.2.2.1 T.2.2.2 s T.1) (gl f p) = rt (uPx T.2.2.1 T.2.2.2 s T.1) (gl f q) ∨ ((rt (uPx T.2.2.1 T.2.2.2 s T.1) (gl f p) = rt (uPx T.2.2.1 T.2.2.2 s T.1) (2 * x) ∨ rt (uPx T.2.2.1 T.2.2.2 s T.1) (gl f p) = rt (uPx T.2.2.1 T.2.2.2 s T.1) (T.2.2.1.2 (2 * x))) ∧ (rt (uPx T.2.2.1 T.2.2.2 s T.1) (gl f q) = rt (uPx T.2.2.1 T.2.2.2 s T.1) (2 * x) ∨ rt (uPx T.2.2.1 T.2.2.2 s T.1) (gl f q) = rt (uPx T.2.2.1 T.2.2.2 s T.1) (T.2.2.1.2 (2 * x))))) → relL9 A sg nm T.1 t (gV9 p) (gV9 q) := fun p q p1 q1 h8 => (relL_T h hz hm p1 q1).mpr ((k2 _ _ (gl_lt h p1) (gl_lt h q1)).mpr h8)
        rcases h9 with h9 | ⟨h9, h8⟩ | ⟨h9, h8⟩
        · rcases relL_out hn hO h9 with e | ⟨⟨p, p1, p2⟩, q, q1, q2⟩
          · rw [e]
            exact (lst_e (jp9 A sg nm T.1 t)).1 k
          · rw [p2, q2] at h9 ⊢
            exact lift p q p1 q1 (Or.inl ((relL_T h hz hm p1 q1).mp h9))
        · obtain ⟨p, p1, p2⟩ := vis g _ ⟨_, m0, rfl⟩ h9
          obtain ⟨q, q1, q2⟩ := vis k _ ⟨_, q0, rfl⟩ h8
          rw [p2] at h9 ⊢
          rw [q2] at h8 ⊢
          have u1 := (relL_T h hz hm p1 m0).mp h9
          have u2 := (relL_T h hz hm q1 q0).mp h8
          rw [e0] at u1
          rw [e1] at u2
          exact lift p q p1 q1 (Or.inr ⟨Or.inl u1, Or.inr u2⟩)
        · obtain ⟨p, p1, p2⟩ := vis g _ ⟨_, q0, rfl⟩ h9
          obtain ⟨q, q1, q2⟩ := vis k _ ⟨_, m0, rfl⟩ h8
          rw [p2] at h9 ⊢
          rw [q2] at h8 ⊢
          have u1 := (relL_T h hz hm p1 q0).mp h9
          have u2 := (relL_T h hz hm q1 m0).mp h8
          rw [e1] at u1
          rw [e0] at u2
          exact lift p q p1 q1 (Or.inr ⟨Or.inr u1, Or.inl u2⟩)
    rcases st_kind (S := T.2.2.1) (G := T.2.2.2) hv hw' hx hs with k | k
    · rw [es] at k
      exact Or.inl (tr _ _ k)
    · rw [es] at k
      have k2 := tr _ _ k
      have hab : relL9 A sg nm T.1 s (gV9 (nm x, 0)) (gV9 (prA9 A (nm x, 0))) := (k2.2 _ _).mpr (adr_ab (lst_e _))
      exact Or.inr ⟨hab, k2.1, k2.2⟩
  · rcases relL_out hn hO h1 with e | ⟨e1, e2⟩
    · exact absurd e hne
    · exact ⟨Or.inl e1, Or.inl e2⟩
  · rcases hg with ⟨p, p1, p2⟩ | ⟨i, i1, -, i3⟩
    · have := h.1.1.2 p p1
      unfold gV9 at p2
      omega
    · omega
  · have m0 := (hO.1 x hx).1
    have q0 := prA_in hn m0
    exact ⟨Or.inl ⟨_, m0, rfl⟩, Or.inl ⟨_, q0, rfl⟩, Or.inl ⟨_, q0, rfl⟩⟩
end XCHT
