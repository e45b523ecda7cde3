section
/-! 99zzzzzzzzzzzzzzzzyu.xchj -/
-- CHAIN: the cube of a list of components
def gV9 (p : vT) : Nat := 2 * p.1 + p.2
noncomputable def prA9 (A : rn_L) (p : vT) : vT := @dite _ (∃ q, ∃ L, L ∈ A ∧ q ∈ L ∧ sc L q = p) (Classical.propDecidable _) (fun h => h.choose) (fun _ => p)
/-- the least likeness with these pairs -/
def lst9 (Pr : Nat → Nat → Prop) (g h : Nat) : Prop := ∀ E : Nat → Nat → Prop, eqv9 E → (∀ a b, Pr a b → E a b) → E g h
section XCHS
variable {A : rn_L} {L : List vT} {p q : vT} {Pr Pr' : Nat → Nat → Prop}
theorem gA_inj (hp : p.2 < 2) (hq : q.2 < 2) (e : gV9 p = gV9 q) : p = q := by
  unfold gV9 at e
  exact Prod.ext (by omega) (by omega)
theorem prA_of (hn : A.flatten.Nodup) (hL : L ∈ A) (hp : p ∈ L) : prA9 A p ∈ L ∧ sc L (prA9 A p) = p := by
  obtain ⟨q, q1, q2⟩ := sc_pre (L_nd hn hL) hp
  have ex : ∃ q, ∃ L, L ∈ A ∧ q ∈ L ∧ sc L q = p := ⟨q, L, hL, q1, q2⟩
  have e : prA9 A p = ex.choose := dif_pos ex
  obtain ⟨L', a1, a2, a3⟩ := ex.choose_spec
  have e2 : L' = L := same_L hn hL a1 hp (by rw [← a3]; exact sc_in a2 (L_nd hn a1))
  rw [e2] at a2 a3
  rw [e]
  exact ⟨a2, a3⟩
theorem prA_in (hn : A.flatten.Nodup) (hp : p ∈ A.flatten) : prA9 A p ∈ A.flatten := by
  obtain ⟨L, hL, h1⟩ := List.mem_flatten.mp hp
  exact List.mem_flatten.mpr ⟨L, hL, (prA_of hn hL h1).1⟩
theorem prA_eq (hn : A.flatten.Nodup) (hL : L ∈ A) (hq : q ∈ L) (e : sc L q = p) : prA9 A p = q := by
  have hp : p ∈ L := by rw [← e]; exact sc_in hq (L_nd hn hL)
  obtain ⟨a1, a2⟩ := prA_of hn hL hp
  exact sc_inj (L_nd hn hL) a1 hq (a2.trans e.symm)
theorem lst_e (Pr : Nat → Nat → Prop) : eqv9 (lst9 Pr) := ⟨fun g E hE _ => hE.1 g, fun g h h1 E hE hP => hE.2.1 _ _ (h1 E hE hP), fun g h k h1 h2 E hE hP => hE.2.2 _ _ _ (h1 E hE hP) (h2 E hE hP)⟩
theorem lst_i {a b : Nat} (h : Pr a b) : lst9 Pr a b := fun _ _ hP => hP a b h
theorem lst_m {g h : Nat} (h1 : ∀ a b, Pr a b → lst9 Pr' a b) (h2 : lst9 Pr g h) : lst9 Pr' g h := h2 _ (lst_e Pr') h1
theorem lst_iff (h1 : ∀ a b, Pr a b → lst9 Pr' a b) (h2 : ∀ a b, Pr' a b → lst9 Pr a b) (g h : Nat) : lst9 Pr g h ↔ lst9 Pr' g h := ⟨lst_m h1, lst_m h2⟩
/-- pulled back along a map -/
theorem eqv_pb {E : Nat → Nat → Prop} (hE : eqv9 E) (ψ : Nat → Nat) : eqv9 (fun g h => E (ψ g) (ψ h)) := ⟨fun g => hE.1 _, fun g h => hE.2.1 _ _, fun g h k => hE.2.2 _ _ _⟩
end XCHS
/-- what crossing y joins in state s -/
def jc9 (A : rn_L) (sg : Nat → Bool) (x : Nat) (t : Bool) (a b : Nat) : Prop := (sg x = t ∧ ((a = gV9 (prA9 A (x, 0)) ∧ b = gV9 (x, 1)) ∨ (a = gV9 (x, 0) ∧ b = gV9 (prA9 A (x, 1))))) ∨ (sg x ≠ t ∧ ((a = gV9 (prA9 A (x, 0)) ∧ b = gV9 (prA9 A (x, 1))) ∨ (a = gV9 (x, 0) ∧ b = gV9 (x, 1))))
def jp9 (A : rn_L) (sg : Nat → Bool) (nm : Nat → Nat) (c : Nat) (s : Nat → Bool) (a b : Nat) : Prop := ∃ y, y < c ∧ jc9 A sg (nm y) (s y) a b
def relL9 (A : rn_L) (sg : Nat → Bool) (nm : Nat → Nat) (c : Nat) (s : Nat → Bool) : Nat → Nat → Prop := lst9 (jp9 A sg nm c s)
def gG9 (A : rn_L) (g : Nat) : Prop := (∃ p, p ∈ A.flatten ∧ g = gV9 p) ∨ ∃ i, i < A.length ∧ A[i]? = some [] ∧ g = 1000 + i
/-- the numbers of the crossings of A -/
def nmO (A : rn_L) (nm : Nat → Nat) (c : Nat) : Prop := (∀ y, y < c → (nm y, 0) ∈ A.flatten ∧ (nm y, 1) ∈ A.flatten) ∧ (∀ y y', y < c → y' < c → nm y = nm y' → y = y') ∧ ∀ p, p ∈ A.flatten → ∃ y, y < c ∧ nm y = p.1
section XCHT
variable {A : rn_L} {sg : Nat → Bool} {f nm : Nat → Nat} {T : ow_NT} {s : Nat → Bool} {p q : vT} {c : Nat}
theorem jc_in {x : Nat} {t : Bool} {a b : Nat} (hn : A.flatten.Nodup) (h0 : (x, 0) ∈ A.flatten) (h1 : (x, 1) ∈ A.flatten) (h : jc9 A sg x t a b) : (∃ p, p ∈ A.flatten ∧ a = gV9 p) ∧ ∃ p, p ∈ A.flatten ∧ b = gV9 p := by
  have q0 := prA_in hn h0
  have q1 := prA_in hn h1
  rcases h with ⟨-, ⟨e1, e2⟩ | ⟨e1, e2⟩⟩ | ⟨-, ⟨e1, e2⟩ | ⟨e1, e2⟩⟩
  · exact ⟨⟨_, q0, e1⟩, _, h1, e2⟩
  · exact ⟨⟨_, h0, e1⟩, _, q1, e2⟩
  · exact ⟨⟨_, q0, e1⟩, _, q1, e2⟩
  · exact ⟨⟨_, h0, e1⟩, _, h1, e2⟩
theorem relL_out {g h : Nat} (hn : A.flatten.Nodup) (hm : nmO A nm c) (h1 : relL9 A sg nm c s g h) : g = h ∨ ((∃ p, p ∈ A.flatten ∧ g = gV9 p) ∧ ∃ p, p ∈ A.flatten ∧ h = gV9 p) := by
  refine h1 (fun g h => g = h ∨ ((∃ p, p ∈ A.flatten ∧ g = gV9 p) ∧ ∃ p, p ∈ A.flatten ∧ h = gV9 p)) ⟨fun g => Or.inl rfl, fun g h h9 => ?_, fun g h k h9 h8 => ?_⟩ (fun a b ⟨y, y1, y2⟩ => ?_)
  · rcases h9 with h9 | h9
    · exact Or.inl h9.symm
    · exact Or.inr ⟨h9.2, h9.1⟩
  · rcases h9 with h9 | h9
    · rw [h9]
      exact h8
    · rcases h8 with h8 | h8
      · rw [← h8]
        exact Or.inr h9
      · exact Or.inr ⟨h9.1, h8.2⟩
  · exact Or.inr (jc_in hn (hm.1 y y1).1 (hm.1 y y1).2 y2)
/-- the numbers of a net that shows A -/
def nmT (A : rn_L) (f nm : Nat → Nat) (c : Nat) : Prop := ∀ y, y < c → f (nm y) = y ∧ (nm y, 0) ∈ A.flatten
theorem nm_f (h : isoV A sg f T) (hm : nmT A f nm T.1) (hp : p ∈ A.flatten) : nm (f p.1) = p.1 := by
  have h4 := h.1.2.2.2.1 p hp
  obtain ⟨a, b⟩ := hm _ h4
  exact h.1.2.2.2.2.1 _ p b hp a
theorem nm_O (h : isoV A sg f T) (hm : nmT A f nm T.1) : nmO A nm T.1 := by
  refine ⟨fun y hy => ⟨(hm y hy).2, (h.1.1.2 _ (hm y hy).2).2.2⟩, fun y y' hy hy' e => ?_, fun p hp => ⟨f p.1, h.1.2.2.2.1 p hp, nm_f h hm hp⟩⟩
  rw [← (hm y hy).1, e, (hm y' hy').1]
theorem pv_gl (h : isoV A sg f T) (hp : p ∈ A.flatten) : T.2.2.1.2 (gl f p) = gl f (prA9 A p) := by
  obtain ⟨L, hL, h1⟩ := List.mem_flatten.mp hp
  obtain ⟨a1, a2⟩ := prA_of h.1.1.1 hL h1
  have := (h.2 L hL _ a1).2
  rw [a2] at this
  exact this
theorem al_sg (h : isoV A sg f T) (hz : ∀ x, x < T.1 → T.2.2.2 x ≠ 0) (hm : nmT A f nm T.1) {y : Nat} (hy : y < T.1) : alB T.2.2.2 s y = decide (sg (nm y) = s y) := by
  obtain ⟨e, m⟩ := hm y hy
  have h7 := h.1.2.2.2.2.2.2.1 _ m
  have h7 : T.2.2.2 (f (nm y)) < 0 ↔ sg (nm y) = true := h7
  rw [e] at h7
  have z := hz y hy
  unfold alB sgP
  by_cases c : sg (nm y) = true
  · have := h7.mpr c
    have np : ¬ 0 < T.2.2.2 y := fun h9 => by
      rw [Int32.lt_iff_toInt_lt] at this h9
      simp at this h9
      omega
    rw [decide_eq_false np, c]
    cases s y <;> rfl
  · have np : 0 < T.2.2.2 y := by
      have n1 : ¬ T.2.2.2 y < 0 := fun h9 => c (h7.mp h9)
      rw [Int32.lt_iff_toInt_lt] at n1 ⊢
      have z2 : (T.2.2.2 y).toInt ≠ 0 := fun h9 => z (Int32.toInt_inj.mp (by rw [h9]; rfl))
      simp at n1 ⊢
      omega
    rw [decide_eq_true np, ff_of c]
    cases s y <;> rfl
theorem jn_T (h : isoV A sg f T) (hz : ∀ x, x < T.1 → T.2.2.2 x ≠ 0) (hm : nmT A f nm T.1) {y : Nat} (hy : y < T.1) : (sg (nm y) = s y → egp T.2.2.1 (toI T.2.2.2 s y) = gl f (nm y, 1) ∧ egp T.2.2.1 (toO T.2.2.2 s y) = gl f (prA9 A (nm y, 1))) ∧ (sg (nm y) ≠ s y → egp T.2.2.1 (toI T.2.2.2 s y) = gl f (prA9 A (nm y, 1)) ∧ egp T.2.2.1 (toO T.2.2.2 s y) = gl f (nm y, 1)) ∧ egp T.2.2.1 (4 * y + 1) = gl f (prA9 A (nm y, 0)) ∧ egp T.2.2.1 (4 * y) = gl f (nm y, 0) := by
  obtain ⟨e, m0⟩ := hm y hy
  have m1 : (nm y, 1) ∈ A.flatten := (h.1.1.2 _ m0).2.2
  have g0 : gl f (nm y, 0) = 2 * y := by
    show 2 * f (nm y) + 0 = _
    rw [e]
    rfl
  have g1 : gl f (nm y, 1) = 2 * y + 1 := by
    show 2 * f (nm y) + 1 = _
    rw [e]
  have v0 := pv_gl h m0
  have v1 := pv_gl h m1
  rw [g0] at v0
  rw [g1] at v1
  have e1 : egp T.2.2.1 (4 * y + 1) = T.2.2.1.2 (2 * y) := by
    unfold egp
    rw [if_neg (by omega), show (4 * y + 1) / 2 = 2 * y by omega]
  have e0 : egp T.2.2.1 (4 * y) = 2 * y := by
    unfold egp
    rw [if_pos (by omega), show 4 * y / 2 = 2 * y by omega]
  have e2 : egp T.2.2.1 (4 * y + 2) = 2 * y + 1 := by
    unfold egp
    rw [if_pos (by omega), show (4 * y + 2) / 2 = 2 * y + 1 by omega]
  have e3 : egp T.2.2.1 (4 * y + 3) = T.2.2.1.2 (2 * y + 1) := by
    unfold egp
    rw [if_neg (by omega), show (4 * y + 3) / 2 = 2 * y + 1 by omega]
  have al := al_sg (s := s) h hz hm hy
  refine ⟨fun c => ?_, fun c => ?_, by rw [e1, v0], by rw [e0, g0]⟩
  · unfold toI toO
    rw [al, decide_eq_true c, if_pos rfl, if_pos rfl, e2, e3, g1, v1]
    exact ⟨rfl, rfl⟩
  · unfold toI toO
    rw [al, decide_eq_false c, if_neg (by decide), if_neg (by decide), e2, e3, g1, v1]
    exact ⟨rfl, rfl⟩
theorem relL_T (h : isoV A sg f T) (hz : ∀ x, x < T.1 → T.2.2.2 x ≠ 0) (hm : nmT A f nm T.1) (hp : p ∈ A.flatten) (hq : q ∈ A.flatten) : relL9 A sg nm T.1 s (gV9 p) (gV9 q) ↔ rt (uPx T.2.2.1 T.2.2.2 s T.1) (gl f p) = rt (uPx T.2.2.1 T.2.2.2 s T.1) (gl f q) := by
  have u2 : ∀ p, p ∈ A.flatten → p.2 < 2 := fun p hp => (h.1.1.2 p hp).2.1
  have hn := h.1.1.1
  constructor
  · intro h1
    have key := h1 (fun g h => g = h ∨ ∃ p q, p ∈ A.flatten ∧ q ∈ A.flatten ∧ g = gV9 p ∧ h = gV9 q ∧ rt (uPx T.2.2.1 T.2.2.2 s T.1) (gl f p) = rt (uPx T.2.2.1 T.2.2.2 s T.1) (gl f q)) ⟨fun g => Or.inl rfl, fun g k h9 => ?_, fun g k l h9 h8 => ?_⟩ (fun a b ⟨y, y1, y2⟩ => ?_)
    · rcases key with e | ⟨p', q', a1, a2, a3, a4, a5⟩
      · rw [gA_inj (u2 p hp) (u2 q hq) e]
      · rw [gA_inj (u2 p hp) (u2 p' a1) a3, gA_inj (u2 q hq) (u2 q' a2) a4]
        exact a5
    · rcases h9 with e | ⟨p', q', a1, a2, a3, a4, a5⟩
      · exact Or.inl e.symm
      · exact Or.inr ⟨q', p', a2, a1, a4, a3, a5.symm⟩
    · rcases h9 with e | ⟨p', q', a1, a2, a3, a4, a5⟩
      · rw [e]
        exact h8
      · rcases h8 with e | ⟨p2, q2, b1, b2, b3, b4, b5⟩
        · rw [← e]
          exact Or.inr ⟨p', q', a1, a2, a3, a4, a5⟩
        · refine Or.inr ⟨p', q2, a1, b2, a3, b4, ?_⟩
          rw [a5, gA_inj (u2 q' a2) (u2 p2 b1) (a4.symm.trans b3)]
          exact b5
    · obtain ⟨j1, j2⟩ := uPx_j (S := T.2.2.1) (G := T.2.2.2) (b := s) T.1 y y1
      obtain ⟨t1, t2, t3, t4⟩ := jn_T (s := s) h hz hm y1
      have m0 := (hm y y1).2
      have m1 : (nm y, 1) ∈ A.flatten := (h.1.1.2 _ m0).2.2
      have q0 := prA_in hn m0
      have q1 := prA_in hn m1
      rw [t3] at j1
      rw [t4] at j2
      rcases y2 with ⟨c, y2⟩ | ⟨c, y2⟩
      · rw [(t1 c).1] at j1
        rw [(t1 c).2] at j2
        rcases y2 with ⟨e1, e2⟩ | ⟨e1, e2⟩
        · exact Or.inr ⟨_, _, q0, m1, e1, e2, j1⟩
        · exact Or.inr ⟨_, _, m0, q1, e1, e2, j2⟩
      · rw [(t2 c).1] at j1
        rw [(t2 c).2] at j2
        rcases y2 with ⟨e1, e2⟩ | ⟨e1, e2⟩
        · exact Or.inr ⟨_, _, q0, q1, e1, e2, j1⟩
        · exact Or.inr ⟨_, _, m0, m1, e1, e2, j2⟩
  · intro h1
    have hR := lst_e (jp9 A sg nm T.1 s)
    have ch : ∀ v : Nat, ∃ l, ld9 (relL9 A sg nm T.1 s) (fun _ => True) l ∧ relL9 A sg nm T.1 s l (gV9 (nm (v / 2), v % 2)) := fun v => by
      obtain ⟨l, l1, l2, -⟩ := ld_ex (G := fun _ => True) hR (gV9 (nm (v / 2), v % 2)) trivial
      exact ⟨l, l1, l2⟩
    have gf : ∀ p, p ∈ A.flatten → gV9 (nm (gl f p / 2), gl f p % 2) = gV9 p := fun p hp => by
      have := u2 p hp
      have e1 : gl f p / 2 = f p.1 := by
        unfold gl
        omega
      have e2 : gl f p % 2 = p.2 := by
        unfold gl
        omega
      rw [e1, e2, nm_f h hm hp]
    have me : ∀ p q, p ∈ A.flatten → q ∈ A.flatten → (relL9 A sg nm T.1 s (gV9 p) (gV9 q) ↔ (ch (gl f p)).choose = (ch (gl f q)).choose) := fun p q hp hq => by
      obtain ⟨a1, a2⟩ := (ch (gl f p)).choose_spec
      obtain ⟨b1, b2⟩ := (ch (gl f q)).choose_spec
      have t3 : ∀ r, r ∈ A.flatten → ∀ l, relL9 A sg nm T.1 s l (gV9 (nm (gl f r / 2), gl f r % 2)) → relL9 A sg nm T.1 s l (gV9 r) := fun r hr l h9 => by
        rw [gf r hr] at h9
        exact h9
      have a2 := t3 p hp _ a2
      have b2 := t3 q hq _ b2
      constructor
      · intro h9
        exact ld_un hR a1 b1 (hR.2.2 _ _ _ a2 (hR.2.2 _ _ _ h9 (hR.2.1 _ _ b2)))
      · intro h9
        rw [h9] at a2
        exact hR.2.2 _ _ _ (hR.2.1 _ _ a2) b2
    refine (me p q hp hq).mpr (uPx_min (M := fun v => (ch v).choose) (S := T.2.2.1) (G := T.2.2.2) (b := s) (isoV_vn h) (fun y y1 => ?_) T.1 (Nat.le_refl _) _ _ (gl_lt h hp) (gl_lt h hq) h1)
    obtain ⟨t1, t2, t3, t4⟩ := jn_T (s := s) h hz hm y1
    have m0 := (hm y y1).2
    have m1 : (nm y, 1) ∈ A.flatten := (h.1.1.2 _ m0).2.2
    have q0 := prA_in hn m0
    have q1 := prA_in hn m1
    rw [t3, t4]
    by_cases c : sg (nm y) = s y
    · rw [(t1 c).1, (t1 c).2]
      exact ⟨(me _ _ q0 m1).mp (lst_i ⟨y, y1, Or.inl ⟨c, Or.inl ⟨rfl, rfl⟩⟩⟩), (me _ _ m0 q1).mp (lst_i ⟨y, y1, Or.inl ⟨c, Or.inr ⟨rfl, rfl⟩⟩⟩)⟩
    · rw [(t2 c).1, (t2 c).2]
      exact ⟨(me _ _ q0 q1).mp (lst_i ⟨y, y1, Or.inr ⟨c, Or.inl ⟨rfl, rfl⟩⟩⟩), (me _ _ m0 m1).mp (lst_i ⟨y, y1, Or.inr ⟨c, Or.inr ⟨rfl, rfl⟩⟩⟩)⟩
/-- the cube of a list -/
theorem cuL {w : vT → Bool} (h : isoV A sg f T) (hz : ∀ x, x < T.1 → T.2.2.2 x ≠ 0) (hw : gaA A w) (hm : nmT A f nm T.1) (hl : A.length ≤ 900) : cu9 T.1 2000 (gG9 A) (fun y => gV9 (nm y, 0)) (fun y => gV9 (prA9 A (nm y, 0))) (fun y => gV9 (prA9 A (nm y, 0))) (relL9 A sg nm T.1) := by
  have hn := h.1.1.1
  have hO := nm_O h hm
  obtain ⟨w', hw'⟩ := gaT_of h hw
  have hv := isoV_vn h
  refine ⟨⟨fun s => lst_e _, fun s x hx hs => ?_⟩, fun s _ g k h1 hne => ?_, fun g hg => ?_, fun x hx => ?_⟩
  · have m0 := (hO.1 x hx).1
    have q0 := prA_in hn m0
    have e0 : gl f (nm x, 0) = 2 * x := by
      show 2 * f (nm x) + 0 = _
      rw [(hm x hx).1]
      rfl
    have e1 : gl f (prA9 A (nm x, 0)) = T.2.2.1.2 (2 * x) := by
      rw [← e0]
      exact (pv_gl h m0).symm
    have es : seB s x true = on9 s x := rfl
    -- one state's loops out of the other's
    have tr : ∀ s t : Nat → Bool, mgX T.2.2.1 T.1 x (uPx T.2.2.1 T.2.2.2 s T.1) (uPx T.2.2.1 T.2.2.2 t T.1) → ¬ relL9 A sg nm T.1 s (gV9 (nm x, 0)) (gV9 (prA9 A (nm x, 0))) ∧ ∀ g k, relL9 A sg nm T.1 t g k ↔ adr (relL9 A sg nm T.1 s) (gV9 (nm x, 0)) (gV9 (prA9 A (nm x, 0))) g k := fun s t hmg => by
      obtain ⟨k1, k2, -⟩ := hmg
      rw [← e1, ← e0] at k1
      refine ⟨fun h9 => k1 ((relL_T h hz hm m0 q0).mp h9), fun g k => ?_⟩
      have hs := lst_e (jp9 A sg nm T.1 s)
      constructor
      · intro h9
        rcases relL_out hn hO h9 with e | ⟨⟨p, p1, p2⟩, q, q1, q2⟩
        · rw [e]
          exact Or.inl (hs.1 k)
        · rw [p2, q2] at h9 ⊢
          have h9 := (relL_T h hz hm p1 q1).mp h9
          rw [k2 _ _ (gl_lt h p1) (gl_lt h q1), ← e1, ← e0] at h9
          rcases h9 with h9 | ⟨h9 | h9, h8 | h8⟩
          · exact Or.inl ((relL_T h hz hm p1 q1).mpr h9)
          · exact Or.inl ((relL_T h hz hm p1 q1).mpr (h9.trans h8.symm))
          · exact Or.inr (Or.inl ⟨(relL_T h hz hm p1 m0).mpr h9, (relL_T h hz hm q1 q0).mpr h8⟩)
          · exact Or.inr (Or.inr ⟨(relL_T h hz hm p1 q0).mpr h9, (relL_T h hz hm q1 m0).mpr h8⟩)
          · exact Or.inl ((relL_T h hz hm p1 q1).mpr (h9.trans h8.symm))
      · -- a gap joined with a visit's gap is a visit's gap
        have vis : ∀ g a, (∃ p, p ∈ A.flatten ∧ a = gV9 p) → relL9 A sg nm T.1 s g a → ∃ p, p ∈ A.flatten ∧ g = gV9 p := fun g a ha h9 => by
          rcases relL_out hn hO h9 with e | ⟨e, -⟩
          · rw [e]
            exact ha
          · exact e
        intro h9
        have lift : ∀ p q, p ∈ A.flatten → q ∈ A.flatten → (rt (uPx T.2.2.1 T.2.2.2 s T.1) (gl f p) = rt (uPx T.2.2.1 T.2.2.2 s T.1) (gl f q) ∨ ((rt (uPx T.2.2.1 T.2.2.2 s T.1) (gl f p) = rt (uPx T.2.2.1 T.2.2.2 s T.1) (2 * x) ∨ rt (uPx T.2.2.1 T.2.2.2 s T.1) (gl f p) = rt (uPx T.2.2.1 T.2.2.2 s T.1) (T.2.2.1.2 (2 * x))) ∧ (rt (uPx T.2.2.1 T.2.2.2 s T.1) (gl f q) = rt (uPx T.2.2.1 T.2.2.2 s T.1) (2 * x) ∨ rt (uPx T.2.2.1 T.2.2.2 s T.1) (gl f q) = rt (uPx T.2.2.1 T.2.2.2 s T.1) (T.2.2.1.2 (2 * x))))) → relL9 A sg nm T.1 t (gV9 p) (gV9 q) := fun p q p1 q1 h8 => (relL_T h hz hm p1 q1).mpr ((k2 _ _ (gl_lt h p1) (gl_lt h q1)).mpr h8)
        rcases h9 with h9 | ⟨h9, h8⟩ | ⟨h9, h8⟩
        · rcases relL_out hn hO h9 with e | ⟨⟨p, p1, p2⟩, q, q1, q2⟩
          · rw [e]
            exact (lst_e (jp9 A sg nm T.1 t)).1 k
          · rw [p2, q2] at h9 ⊢
            exact lift p q p1 q1 (Or.inl ((relL_T h hz hm p1 q1).mp h9))
        · obtain ⟨p, p1, p2⟩ := vis g _ ⟨_, m0, rfl⟩ h9
          obtain ⟨q, q1, q2⟩ := vis k _ ⟨_, q0, rfl⟩ h8
          rw [p2] at h9 ⊢
          rw [q2] at h8 ⊢
          have u1 := (relL_T h hz hm p1 m0).mp h9
          have u2 := (relL_T h hz hm q1 q0).mp h8
          rw [e0] at u1
          rw [e1] at u2
          exact lift p q p1 q1 (Or.inr ⟨Or.inl u1, Or.inr u2⟩)
        · obtain ⟨p, p1, p2⟩ := vis g _ ⟨_, q0, rfl⟩ h9
          obtain ⟨q, q1, q2⟩ := vis k _ ⟨_, m0, rfl⟩ h8
          rw [p2] at h9 ⊢
          rw [q2] at h8 ⊢
          have u1 := (relL_T h hz hm p1 q0).mp h9
          have u2 := (relL_T h hz hm q1 m0).mp h8
          rw [e1] at u1
          rw [e0] at u2
          exact lift p q p1 q1 (Or.inr ⟨Or.inr u1, Or.inl u2⟩)
    rcases st_kind (S := T.2.2.1) (G := T.2.2.2) hv hw' hx hs with k | k
    · rw [es] at k
      exact Or.inl (tr _ _ k)
    · rw [es] at k
      have k2 := tr _ _ k
      have hab : relL9 A sg nm T.1 s (gV9 (nm x, 0)) (gV9 (prA9 A (nm x, 0))) := (k2.2 _ _).mpr (adr_ab (lst_e _))
      exact Or.inr ⟨hab, k2.1, k2.2⟩
  · rcases relL_out hn hO h1 with e | ⟨e1, e2⟩
    · exact absurd e hne
    · exact ⟨Or.inl e1, Or.inl e2⟩
  · rcases hg with ⟨p, p1, p2⟩ | ⟨i, i1, -, i3⟩
    · have := h.1.1.2 p p1
      unfold gV9 at p2
      omega
    · omega
  · have m0 := (hO.1 x hx).1
    have q0 := prA_in hn m0
    exact ⟨Or.inl ⟨_, m0, rfl⟩, Or.inl ⟨_, q0, rfl⟩, Or.inl ⟨_, q0, rfl⟩⟩
end XCHT
end
section
/-! 99zzzzzzzzzzzzzzzzyv.xchk -/
-- CHAIN: two visits that follow each other taken out of a list
/-- as relL9, and for each pair the gap before it with the gap behind it -/
def relX9 (A : rn_L) (sg : Nat → Bool) (nm : Nat → Nat) (n : Nat) (ps : List (vT × vT)) (s : Nat → Bool) : Nat → Nat → Prop := lst9 (fun a b => jp9 A sg nm n s a b ∨ ∃ z, z ∈ ps ∧ a = gV9 (prA9 A z.1) ∧ b = gV9 z.2)
def gX9 (A : rn_L) (ps : List (vT × vT)) (g : Nat) : Prop := (∃ p, p ∈ A.flatten ∧ (∀ z, z ∈ ps → p ≠ z.1) ∧ g = gV9 p) ∨ ∃ i, i < A.length ∧ A[i]? = some [] ∧ g = 1000 + i
/-- pairs of visits that follow each other -/
def prO (A : rn_L) (ps : List (vT × vT)) : Prop := ∀ z, z ∈ ps → ∃ L, L ∈ A ∧ z.1 ∈ L ∧ sc L z.1 = z.2 ∧ z.1 ≠ z.2
def bdA (A : rn_L) : Prop := A.flatten.Nodup ∧ (∀ p, p ∈ A.flatten → p.1 < 400 ∧ p.2 < 2) ∧ A.length ≤ 900
noncomputable def fmv9 (A : rn_L) (r' : vT) (g : Nat) : Nat := if dcb (1000 ≤ g ∧ A[g - 1000]? ≠ some []) = true then gV9 r' else g
section XCHU
variable {A : rn_L} {sg : Nat → Bool} {nm : Nat → Nat} {n : Nat} {ps : List (vT × vT)} {s : Nat → Bool} {L : List vT} {r r' p q : vT}
theorem rm_bd (h : bdA A) : bdA (rmv (rmv A r) r') := ⟨rmv_nd (rmv_nd h.1), fun p hp => h.2.1 p (rmv_mem.mp (rmv_mem.mp hp).1).1, by
  unfold rmv
  rw [List.length_map, List.length_map]
  exact h.2.2⟩
theorem rm_in : p ∈ (rmv (rmv A r) r').flatten ↔ p ∈ A.flatten ∧ p ≠ r ∧ p ≠ r' := by
  rw [rmv_mem, rmv_mem]
  exact ⟨fun h => ⟨h.1.1, h.1.2, h.2⟩, fun h => ⟨⟨h.1, h.2.1⟩, h.2.2⟩⟩
/-- who comes before, when r and r' are out -/
theorem prA_rm (hn : A.flatten.Nodup) (hL : L ∈ A) (hr : r ∈ L) (e : sc L r = r') (hne : r ≠ r') (hp : p ∈ A.flatten) (h1 : p ≠ r) (h2 : p ≠ r') : prA9 A p ≠ r ∧ (prA9 A p = r' → prA9 A r ≠ r ∧ prA9 A r ≠ r') ∧ prA9 (rmv (rmv A r) r') p = if prA9 A p = r' then prA9 A r else prA9 A p := by
  obtain ⟨M, hM, p1⟩ := List.mem_flatten.mp hp
  obtain ⟨q1, q2⟩ := prA_of hn hM p1
  have nM := L_nd hn hM
  have hr' : r' ∈ L := by rw [← e]; exact sc_in hr (L_nd hn hL)
  have a1 : prA9 A p ≠ r := fun h9 => by
    rw [h9] at q1 q2
    have : M = L := same_L hn hL hM hr q1
    rw [this, e] at q2
    exact h2 q2.symm
  have a2 : prA9 A p = r' → prA9 A r ≠ r ∧ prA9 A r ≠ r' := fun h9 => by
    rw [h9] at q1 q2
    have eM : M = L := same_L hn hL hM hr' q1
    rw [eM] at q2
    obtain ⟨w1, w2⟩ := prA_of hn hL hr
    refine ⟨fun h8 => ?_, fun h8 => ?_⟩
    · rw [h8, e] at w2
      exact hne w2.symm
    · rw [h8] at w2
      exact h1 (q2.symm.trans w2)
  refine ⟨a1, a2, ?_⟩
  have nN : (rmv A r).flatten.Nodup := rmv_nd hn
  have nP : (rmv (rmv A r) r').flatten.Nodup := rmv_nd nN
  have hM2 : ((M.filter (fun q => decide (q ≠ r))).filter (fun q => decide (q ≠ r'))) ∈ rmv (rmv A r) r' := List.mem_map.mpr ⟨_, List.mem_map.mpr ⟨M, hM, rfl⟩, rfl⟩
  have n1 : (M.filter (fun q => decide (q ≠ r))).Nodup := List.Pairwise.filter _ nM
  have inF : ∀ t, t ∈ M → t ≠ r → t ∈ M.filter (fun q => decide (q ≠ r)) := fun t t1 t2 => List.mem_filter.mpr ⟨t1, decide_eq_true t2⟩
  have inF2 : ∀ t, t ∈ M → t ≠ r → t ≠ r' → t ∈ (M.filter (fun q => decide (q ≠ r))).filter (fun q => decide (q ≠ r')) := fun t t1 t2 t3 => List.mem_filter.mpr ⟨inF t t1 t2, decide_eq_true t3⟩
  -- a step in the list with both out
  have stp : ∀ t, t ∈ M → t ≠ r → t ≠ r' → sc ((M.filter (fun q => decide (q ≠ r))).filter (fun q => decide (q ≠ r'))) t = if (if sc M t = r then sc M r else sc M t) = r' then (if sc M r' = r then sc M r else sc M r') else (if sc M t = r then sc M r else sc M t) := fun t t1 t2 t3 => by
    rw [sc_fil n1 (inF t t1 t2) t3, sc_fil nM t1 t2]
    by_cases c : (if sc M t = r then sc M r else sc M t) = r'
    · rw [if_pos c, if_pos c]
      have r'M : r' ∈ M := by
        rw [← c]
        split
        · rename_i h9
          have : r ∈ M := by rw [← h9]; exact sc_in t1 nM
          exact sc_in this nM
        · exact sc_in t1 nM
      exact sc_fil nM r'M (fun h9 => hne h9.symm)
    · rw [if_neg c, if_neg c]
  by_cases c : prA9 A p = r'
  · rw [if_pos c]
    obtain ⟨b1, b2⟩ := a2 c
    rw [c] at q1 q2
    have eM : M = L := same_L hn hL hM hr' q1
    obtain ⟨w1, w2⟩ := prA_of hn hL hr
    rw [← eM] at w1 w2 e
    refine prA_eq nP hM2 (inF2 _ w1 b1 b2) ?_
    rw [stp _ w1 b1 b2, w2, if_pos rfl, e, if_pos rfl, q2, if_neg h1]
  · rw [if_neg c]
    refine prA_eq nP hM2 (inF2 _ q1 a1 c) ?_
    rw [stp _ q1 a1 c, q2, if_neg h1, if_neg h2]
theorem gV_lt (h : bdA A) (hp : p ∈ A.flatten) : gV9 p < 1000 := by
  have := h.2.1 p hp
  unfold gV9
  omega
theorem fm_v (h : bdA A) (hp : p ∈ A.flatten) : fmv9 A r' (gV9 p) = gV9 p := if_neg (fun h9 => by
  have := (dcb_t.mp h9).1
  have := gV_lt h hp
  omega)
theorem rmv_ix {i : Nat} : (rmv (rmv A r) r')[i]? = (A[i]?).map (fun M => (M.filter (fun q => decide (q ≠ r))).filter (fun q => decide (q ≠ r'))) := by
  unfold rmv
  rw [List.getElem?_map, List.getElem?_map, Option.map_map]
  rfl
theorem nd_ix {i j : Nat} (hn : A.flatten.Nodup) (h1 : A[i]? = some L) (h2 : A[j]? = some L) (hr : r ∈ L) : i = j := by
  have key : ∀ (A : rn_L) (i j : Nat), A.flatten.Nodup → A[i]? = some L → A[j]? = some L → i < j → False := fun A => by
    induction A with
    | nil =>
      intro i j _ h1
      cases h1
    | cons M A ih =>
      intro i j hn h1 h2 hl
      have hn2 : (M ++ A.flatten).Nodup := hn
      cases j with
      | zero => omega
      | succ j =>
        have h2 : A[j]? = some L := h2
        cases i with
        | zero =>
          have h1 : some M = some L := h1
          have e : M = L := Option.some.inj h1
          have d := (List.nodup_append.mp hn2).2.2
          exact d r (by rw [e]; exact hr) r (List.mem_flatten.mpr ⟨L, List.mem_of_getElem? h2, hr⟩) rfl
        | succ i => exact ih i j (List.nodup_append.mp hn2).2.1 h1 h2 (by omega)
  rcases Nat.lt_trichotomy i j with c | c | c
  · exact absurd (key A i j hn h1 h2 c) id
  · exact c
  · exact absurd (key A j i hn h2 h1 c) id
/-- one pair out -/
theorem rmP (hb : bdA A) (hL : L ∈ A) (hr : r ∈ L) (e : sc L r = r') (hne : r ≠ r') (hps : prO A ps) (hpd : ∀ z, z ∈ ps → (z.1 ≠ r ∧ z.1 ≠ r') ∧ z.2 ≠ r ∧ z.2 ≠ r') (hnm : ∀ y u, y < n → u < 2 → (nm y, u) ∈ A.flatten ∧ (nm y, u) ≠ r ∧ (nm y, u) ≠ r') : phi9 n (gX9 A ((r, r') :: ps)) (gX9 (rmv (rmv A r) r') ps) (fun y => gV9 (nm y, 0)) (fun y => gV9 (prA9 A (nm y, 0))) (fun y => gV9 (prA9 A (nm y, 0))) (fun y => gV9 (nm y, 0)) (fun y => gV9 (prA9 (rmv (rmv A r) r') (nm y, 0))) (fun y => gV9 (prA9 (rmv (rmv A r) r') (nm y, 0))) (relX9 A sg nm n ((r, r') :: ps)) (relX9 (rmv (rmv A r) r') sg nm n ps) (fmv9 A r') := by
  have hn := hb.1
  have u2 : ∀ p, p ∈ A.flatten → p.2 < 2 := fun p hp => (hb.2.1 p hp).2
  have hr' : r' ∈ L := by rw [← e]; exact sc_in hr (L_nd hn hL)
  have rA : r ∈ A.flatten := List.mem_flatten.mpr ⟨L, hL, hr⟩
  have rA' : r' ∈ A.flatten := List.mem_flatten.mpr ⟨L, hL, hr'⟩
  have qA := prA_in hn rA
  obtain ⟨w1, w2⟩ := prA_of hn hL hr
  have qr : prA9 A r ≠ r := fun h9 => by
    rw [h9, e] at w2
    exact hne w2.symm
  obtain ⟨i0, hi0, ei0⟩ := List.mem_iff_getElem.mp hL
  have ei : A[i0]? = some L := by rw [List.getElem?_eq_getElem hi0, ei0]
  have zA : ∀ z, z ∈ ps → z.1 ∈ A.flatten ∧ z.2 ∈ A.flatten := fun z hz => by
    obtain ⟨M, m1, m2, m3, -⟩ := hps z hz
    exact ⟨List.mem_flatten.mpr ⟨M, m1, m2⟩, List.mem_flatten.mpr ⟨M, m1, by rw [← m3]; exact sc_in m2 (L_nd hn m1)⟩⟩
  -- if r and r' are all
  have all : prA9 A r = r' → (L.filter (fun q => decide (q ≠ r))).filter (fun q => decide (q ≠ r')) = [] := fun h9 => by
    rw [h9] at w2
    have n1 : (L.filter (fun q => decide (q ≠ r))).Nodup := List.Pairwise.filter _ (L_nd hn hL)
    have m1 : r' ∈ L.filter (fun q => decide (q ≠ r)) := List.mem_filter.mpr ⟨hr', decide_eq_true (fun h8 => hne h8.symm)⟩
    have s1 : sc (L.filter (fun q => decide (q ≠ r))) r' = r' := by
      rw [sc_fil (L_nd hn hL) hr' (fun h8 => hne h8.symm), w2, if_pos rfl, e]
    rw [sc_self n1 m1 s1]
    exact List.filter_cons_of_neg (by rw [decide_eq_false (fun h8 => h8 rfl)]; decide)
  have cir : ∀ i, (rmv (rmv A r) r')[i]? = some [] → A[i]? ≠ some [] → i < A.length := fun i h1 h2 => by
    rw [rmv_ix] at h1
    cases h3 : A[i]? with
    | none =>
      rw [h3] at h1
      cases h1
    | some M => exact (List.getElem?_eq_some_iff.mp h3).1
  refine ⟨fun g hg => ?_, fun s _ => ?_⟩
  · rcases hg with ⟨p, p1, p2, p3⟩ | ⟨i, i1, i2, i3⟩
    · obtain ⟨a1, a2, a3⟩ := rm_in.mp p1
      rw [p3, fm_v hb a1]
      exact Or.inl ⟨p, a1, fun z hz => (List.mem_cons.mp hz).elim (fun h9 => by rw [h9]; exact a2) (p2 z), rfl⟩
    · by_cases c : A[i]? = some []
      · have q : fmv9 A r' g = g := if_neg (fun h9 => (dcb_t.mp h9).2 (by rw [i3, show 1000 + i - 1000 = i by omega]; exact c))
        rw [q]
        refine Or.inr ⟨i, (List.getElem?_eq_some_iff.mp c).1, c, i3⟩
      · have q : fmv9 A r' g = gV9 r' := if_pos (dcb_t.mpr ⟨by omega, by rw [i3, show 1000 + i - 1000 = i by omega]; exact c⟩)
        rw [q]
        exact Or.inl ⟨r', rA', fun z hz => (List.mem_cons.mp hz).elim (fun h9 => by rw [h9]; exact fun h8 => hne h8.symm) (fun h9 h8 => (hpd z h9).1.2 h8.symm), rfl⟩
  · have hX := lst_e (fun a b => jp9 A sg nm n s a b ∨ ∃ z, z ∈ (r, r') :: ps ∧ a = gV9 (prA9 A z.1) ∧ b = gV9 z.2)
    have hX1 := lst_e (fun a b => jp9 (rmv (rmv A r) r') sg nm n s a b ∨ ∃ z, z ∈ ps ∧ a = gV9 (prA9 (rmv (rmv A r) r') z.1) ∧ b = gV9 z.2)
    have par : relX9 A sg nm n ((r, r') :: ps) s (gV9 (prA9 A r)) (gV9 r') := lst_i (Or.inr ⟨(r, r'), List.mem_cons_self, rfl, rfl⟩)
    -- the gap before p, old and new
    have L1 : ∀ p, p ∈ A.flatten → p ≠ r → p ≠ r' → relX9 A sg nm n ((r, r') :: ps) s (gV9 (prA9 (rmv (rmv A r) r') p)) (gV9 (prA9 A p)) := fun p p1 p2 p3 => by
      obtain ⟨a1, a2, a3⟩ := prA_rm hn hL hr e hne p1 p2 p3
      rw [a3]
      by_cases c : prA9 A p = r'
      · rw [if_pos c, c]
        exact par
      · rw [if_neg c]
        exact hX.1 _
    have fp : ∀ p, p ∈ (rmv (rmv A r) r').flatten → fmv9 A r' (gV9 p) = gV9 p := fun p hp => fm_v hb (rm_in.mp hp).1
    have nm1 : ∀ y u, y < n → u < 2 → (nm y, u) ∈ (rmv (rmv A r) r').flatten := fun y u hy hu => rm_in.mpr (hnm y u hy hu)
    have n1 := (rm_bd (r := r) (r' := r') hb).1
    -- there and back
    have fwd : ∀ g h, relX9 (rmv (rmv A r) r') sg nm n ps s g h → relX9 A sg nm n ((r, r') :: ps) s (fmv9 A r' g) (fmv9 A r' h) := fun g h h1 => by
      refine h1 _ (eqv_pb hX (fmv9 A r')) (fun a b hab => ?_)
      show relX9 A sg nm n ((r, r') :: ps) s (fmv9 A r' a) (fmv9 A r' b)
      rcases hab with ⟨y, y1, y2⟩ | ⟨z, z1, z2, z3⟩
      · have m0 := nm1 y 0 y1 (by omega)
        have m1 := nm1 y 1 y1 (by omega)
        obtain ⟨o0, o1, o2⟩ := hnm y 0 y1 (by omega)
        obtain ⟨v0, v1, v2⟩ := hnm y 1 y1 (by omega)
        have l0 := L1 _ o0 o1 o2
        have l1 := L1 _ v0 v1 v2
        have jj : ∀ a b, jc9 A sg (nm y) (s y) a b → relX9 A sg nm n ((r, r') :: ps) s a b := fun a b h9 => lst_i (Or.inl ⟨y, y1, h9⟩)
        rcases y2 with ⟨c, ⟨e1, e2⟩ | ⟨e1, e2⟩⟩ | ⟨c, ⟨e1, e2⟩ | ⟨e1, e2⟩⟩
        · rw [e1, e2, fp _ (prA_in n1 m0), fp _ m1]
          exact hX.2.2 _ _ _ l0 (jj _ _ (Or.inl ⟨c, Or.inl ⟨rfl, rfl⟩⟩))
        · rw [e1, e2, fp _ (prA_in n1 m1), fp _ m0]
          exact hX.2.2 _ _ _ (jj _ _ (Or.inl ⟨c, Or.inr ⟨rfl, rfl⟩⟩)) (hX.2.1 _ _ l1)
        · rw [e1, e2, fp _ (prA_in n1 m0), fp _ (prA_in n1 m1)]
          exact hX.2.2 _ _ _ l0 (hX.2.2 _ _ _ (jj _ _ (Or.inr ⟨c, Or.inl ⟨rfl, rfl⟩⟩)) (hX.2.1 _ _ l1))
        · rw [e1, e2, fp _ m0, fp _ m1]
          exact jj _ _ (Or.inr ⟨c, Or.inr ⟨rfl, rfl⟩⟩)
      · obtain ⟨⟨d1, d2⟩, d3, d4⟩ := hpd z z1
        obtain ⟨t1, t2⟩ := zA z z1
        have m1 : z.1 ∈ (rmv (rmv A r) r').flatten := rm_in.mpr ⟨t1, d1, d2⟩
        have m2 : z.2 ∈ (rmv (rmv A r) r').flatten := rm_in.mpr ⟨t2, d3, d4⟩
        rw [z2, z3, fp _ (prA_in n1 m1), fp _ m2]
        exact hX.2.2 _ _ _ (L1 _ t1 d1 d2) (lst_i (Or.inr ⟨z, List.mem_cons_of_mem _ z1, rfl, rfl⟩))
    -- back
    have ex : ∃ ψ : Nat → Nat, (∀ p, p ∈ A.flatten → p ≠ r → p ≠ r' → ψ (gV9 p) = gV9 p) ∧ (ψ (gV9 r') = if prA9 A r = r' then 1000 + i0 else gV9 (prA9 A r)) ∧ ∀ g, 1000 ≤ g → ψ g = g := by
      refine ⟨fun g => if g = gV9 r' then (if prA9 A r = r' then 1000 + i0 else gV9 (prA9 A r)) else g, fun p p1 p2 p3 => if_neg (fun h9 => p3 (gA_inj (u2 p p1) (u2 r' rA') h9)), if_pos rfl, fun g hg => if_neg (fun h9 => ?_)⟩
      have := gV_lt hb rA'
      omega
    obtain ⟨ψ, ψ1, ψ2, ψ3⟩ := ex
    have ψp : ∀ p, p ∈ A.flatten → p ≠ r → p ≠ r' → ψ (gV9 (prA9 A p)) = gV9 (prA9 (rmv (rmv A r) r') p) := fun p p1 p2 p3 => by
      obtain ⟨a1, a2, a3⟩ := prA_rm hn hL hr e hne p1 p2 p3
      rw [a3]
      by_cases c : prA9 A p = r'
      · rw [if_pos c, c, ψ2, if_neg (a2 c).2]
      · rw [if_neg c]
        exact ψ1 _ (prA_in hn p1) a1 c
    have bwd : ∀ g h, relX9 A sg nm n ((r, r') :: ps) s g h → relX9 (rmv (rmv A r) r') sg nm n ps s (ψ g) (ψ h) := fun g h h1 => by
      refine h1 _ (eqv_pb hX1 ψ) (fun a b hab => ?_)
      show relX9 (rmv (rmv A r) r') sg nm n ps s (ψ a) (ψ b)
      rcases hab with ⟨y, y1, y2⟩ | ⟨z, z1, z2, z3⟩
      · obtain ⟨o0, o1, o2⟩ := hnm y 0 y1 (by omega)
        obtain ⟨v0, v1, v2⟩ := hnm y 1 y1 (by omega)
        have p0 := ψp _ o0 o1 o2
        have p1 := ψp _ v0 v1 v2
        have s0 := ψ1 _ o0 o1 o2
        have s1 := ψ1 _ v0 v1 v2
        rcases y2 with ⟨c, ⟨e1, e2⟩ | ⟨e1, e2⟩⟩ | ⟨c, ⟨e1, e2⟩ | ⟨e1, e2⟩⟩
        · rw [e1, e2, p0, s1]
          exact lst_i (Or.inl ⟨y, y1, Or.inl ⟨c, Or.inl ⟨rfl, rfl⟩⟩⟩)
        · rw [e1, e2, s0, p1]
          exact lst_i (Or.inl ⟨y, y1, Or.inl ⟨c, Or.inr ⟨rfl, rfl⟩⟩⟩)
        · rw [e1, e2, p0, p1]
          exact lst_i (Or.inl ⟨y, y1, Or.inr ⟨c, Or.inl ⟨rfl, rfl⟩⟩⟩)
        · rw [e1, e2, s0, s1]
          exact lst_i (Or.inl ⟨y, y1, Or.inr ⟨c, Or.inr ⟨rfl, rfl⟩⟩⟩)
      · rcases List.mem_cons.mp z1 with ez | ez
        · rw [z2, z3, ez]
          show relX9 (rmv (rmv A r) r') sg nm n ps s (ψ (gV9 (prA9 A r))) (ψ (gV9 r'))
          by_cases c : prA9 A r = r'
          · rw [c]
            exact hX1.1 _
          · rw [ψ2, if_neg c, ψ1 _ qA qr c]
            exact hX1.1 _
        · obtain ⟨⟨d1, d2⟩, d3, d4⟩ := hpd z ez
          obtain ⟨t1, t2⟩ := zA z ez
          rw [z2, z3, ψp _ t1 d1 d2, ψ1 _ t2 d3 d4]
          exact lst_i (Or.inr ⟨z, ez, rfl, rfl⟩)
    have inv : ∀ g, gX9 (rmv (rmv A r) r') ps g → ψ (fmv9 A r' g) = g := fun g hg => by
      rcases hg with ⟨p, p1, p2, p3⟩ | ⟨i, i1, i2, i3⟩
      · obtain ⟨a1, a2, a3⟩ := rm_in.mp p1
        rw [p3, fp p p1, ψ1 p a1 a2 a3]
      · by_cases c : A[i]? = some []
        · have q : fmv9 A r' g = g := if_neg (fun h9 => (dcb_t.mp h9).2 (by rw [i3, show 1000 + i - 1000 = i by omega]; exact c))
          rw [q, ψ3 g (by omega)]
        · have q : fmv9 A r' g = gV9 r' := if_pos (dcb_t.mpr ⟨by omega, by rw [i3, show 1000 + i - 1000 = i by omega]; exact c⟩)
          -- the component is L
          have i2' := i2
          rw [rmv_ix] at i2
          cases h3 : A[i]? with
          | none =>
            rw [h3] at i2
            cases i2
          | some M =>
            rw [h3] at i2 c
            have i4 : (M.filter (fun q => decide (q ≠ r))).filter (fun q => decide (q ≠ r')) = [] := Option.some.inj i2
            have hM : M ∈ A := List.mem_of_getElem? h3
            cases M with
            | nil => exact absurd rfl c
            | cons t M =>
              have ht : t = r ∨ t = r' := by
                by_cases c1 : t = r
                · exact Or.inl c1
                · by_cases c2 : t = r'
                  · exact Or.inr c2
                  · have : t ∈ ((t :: M).filter (fun q => decide (q ≠ r))).filter (fun q => decide (q ≠ r')) := List.mem_filter.mpr ⟨List.mem_filter.mpr ⟨List.mem_cons_self, decide_eq_true c1⟩, decide_eq_true c2⟩
                    rw [i4] at this
                    exact absurd this List.not_mem_nil
              have eM : t :: M = L := by
                rcases ht with h9 | h9
                · exact same_L hn hL hM hr (by rw [← h9]; exact List.mem_cons_self)
                · exact same_L hn hL hM hr' (by rw [← h9]; exact List.mem_cons_self)
              have ii : i = i0 := by
                rw [eM] at h3
                -- the component stands at one place
                refine nd_ix hn h3 ei hr
              have c9 : prA9 A r = r' := by
                rw [eM] at i4
                by_cases c1 : prA9 A r = r'
                · exact c1
                · have : prA9 A r ∈ (L.filter (fun q => decide (q ≠ r))).filter (fun q => decide (q ≠ r')) := List.mem_filter.mpr ⟨List.mem_filter.mpr ⟨w1, decide_eq_true qr⟩, decide_eq_true c1⟩
                  rw [i4] at this
                  exact absurd this List.not_mem_nil
              rw [q, ψ2, if_pos c9, i3, ii]
    refine ⟨fun g h hg hh => ⟨fwd g h, fun h9 => ?_⟩, fun g hg => ?_, fun x hx => ?_⟩
    · have := bwd _ _ h9
      rw [inv g hg, inv h hh] at this
      exact this
    · rcases hg with ⟨p, p1, p2, p3⟩ | ⟨i, i1, i2, i3⟩
      · have pr : p ≠ r := p2 (r, r') List.mem_cons_self
        by_cases c : p = r'
        · by_cases c2 : prA9 A r = r'
          · have i2 : (rmv (rmv A r) r')[i0]? = some [] := by
              rw [rmv_ix, ei]
              exact congrArg some (all c2)
            refine ⟨1000 + i0, Or.inr ⟨i0, (List.getElem?_eq_some_iff.mp i2).1, i2, rfl⟩, ?_⟩
            have q : fmv9 A r' (1000 + i0) = gV9 r' := if_pos (dcb_t.mpr ⟨by omega, by
              rw [show 1000 + i0 - 1000 = i0 by omega, ei]
              intro h9
              rw [Option.some.inj h9] at hr
              exact absurd hr List.not_mem_nil⟩)
            rw [q, p3, c]
            exact hX.1 _
          · have m : prA9 A r ∈ (rmv (rmv A r) r').flatten := rm_in.mpr ⟨qA, qr, c2⟩
            refine ⟨gV9 (prA9 A r), Or.inl ⟨_, m, fun z hz h9 => ?_, rfl⟩, ?_⟩
            · obtain ⟨M, m1, m2, m3, -⟩ := hps z hz
              rw [← h9] at m2 m3
              have : M = L := same_L hn hL m1 w1 m2
              rw [this, w2] at m3
              exact (hpd z hz).2.1 m3.symm
            · rw [fp _ m, p3, c]
              exact hX.2.1 _ _ par
        · have m : p ∈ (rmv (rmv A r) r').flatten := rm_in.mpr ⟨p1, pr, c⟩
          refine ⟨gV9 p, Or.inl ⟨p, m, fun z hz => p2 z (List.mem_cons_of_mem _ hz), rfl⟩, ?_⟩
          rw [fp p m, p3]
          exact hX.1 _
      · have i4 : (rmv (rmv A r) r')[i]? = some [] := by
          rw [rmv_ix, i2]
          rfl
        refine ⟨g, Or.inr ⟨i, (List.getElem?_eq_some_iff.mp i4).1, i4, i3⟩, ?_⟩
        have q : fmv9 A r' g = g := if_neg (fun h9 => (dcb_t.mp h9).2 (by rw [i3, show 1000 + i - 1000 = i by omega]; exact i2))
        rw [q]
        exact hX.1 _
    · obtain ⟨o0, o1, o2⟩ := hnm x 0 hx (by omega)
      have m0 := nm1 x 0 hx (by omega)
      have l0 := hX.2.1 _ _ (L1 _ o0 o1 o2)
      rw [fp _ m0, fp _ (prA_in n1 m0)]
      exact ⟨hX.1 _, l0, l0⟩
/-- maps of gaps one behind the other -/
theorem ph_cmp {n : Nat} {G G' G'' : Nat → Prop} {P1 P2 P3 P1' P2' P3' P1'' P2'' P3'' : Nat → Nat} {rel rel' rel'' : (Nat → Bool) → Nat → Nat → Prop} {φ φ' : Nat → Nat} (hE : ∀ s, eqv9 (rel s)) (h1 : phi9 n G G' P1 P2 P3 P1' P2' P3' rel rel' φ) (h2 : phi9 n G' G'' P1' P2' P3' P1'' P2'' P3'' rel' rel'' φ') (hP : ∀ x, x < n → G' (P1' x) ∧ G' (P2' x) ∧ G' (P3' x)) (hP' : ∀ x, x < n → G'' (P1'' x) ∧ G'' (P2'' x) ∧ G'' (P3'' x)) : phi9 n G G'' P1 P2 P3 P1'' P2'' P3'' rel rel'' (fun g => φ (φ' g)) := by
  refine ⟨fun g hg => h1.1 _ (h2.1 g hg), fun s hs => ?_⟩
  obtain ⟨a1, a2, a3⟩ := h1.2 s hs
  obtain ⟨b1, b2, b3⟩ := h2.2 s hs
  refine ⟨fun g h hg hh => (b1 g h hg hh).trans (a1 _ _ (h2.1 g hg) (h2.1 h hh)), fun g hg => ?_, fun x hx => ?_⟩
  · obtain ⟨g', g1, g2⟩ := a2 g hg
    obtain ⟨g'', k1, k2⟩ := b2 g' g1
    exact ⟨g'', k1, (hE s).2.2 _ _ _ g2 ((a1 _ _ g1 (h2.1 _ k1)).mp k2)⟩
  · obtain ⟨p1, p2, p3⟩ := a3 x hx
    obtain ⟨q1, q2, q3⟩ := b3 x hx
    obtain ⟨g1, g2, g3⟩ := hP x hx
    obtain ⟨k1, k2, k3⟩ := hP' x hx
    exact ⟨(hE s).2.2 _ _ _ p1 ((a1 _ _ g1 (h2.1 _ k1)).mp q1), (hE s).2.2 _ _ _ p2 ((a1 _ _ g2 (h2.1 _ k2)).mp q2), (hE s).2.2 _ _ _ p3 ((a1 _ _ g3 (h2.1 _ k3)).mp q3)⟩
end XCHU
end
section
/-! 99zzzzzzzzzzzzzzzzyw.xchl -/
-- CHAIN: a kink goes out of a list
def bL9 (p : Int) (A : rn_L) (sg : Nat → Bool) (nm : Nat → Nat) (c k : Nat) (d : Int) (r : Nat) (b : Int) : Prop := be9 p (Sg9 c 2000 (gG9 A) (relL9 A sg nm c) k d) (D9 (fun y => gV9 (nm y, 0)) (fun y => gV9 (prA9 A (nm y, 0))) (fun y => gV9 (prA9 A (nm y, 0))) (relL9 A sg nm c) c) r b
def cuL9 (A : rn_L) (sg : Nat → Bool) (nm : Nat → Nat) (c : Nat) : Prop := cu9 c 2000 (gG9 A) (fun y => gV9 (nm y, 0)) (fun y => gV9 (prA9 A (nm y, 0))) (fun y => gV9 (prA9 A (nm y, 0))) (relL9 A sg nm c)
section XCHV
variable {A : rn_L} {sg : Nat → Bool} {nm : Nat → Nat} {n k : Nat} {s : Nat → Bool} {L : List vT} {r r' : vT} {p d b : Int}
theorem ph_cg {G G' G1 G1' : Nat → Prop} {P1 P2 P3 P1' P2' P3' Q1 Q2 Q3 Q1' Q2' Q3' : Nat → Nat} {rel rel' rel1 rel1' : (Nat → Bool) → Nat → Nat → Prop} {φ : Nat → Nat} (hG : ∀ g, G1 g ↔ G g) (hG' : ∀ g, G1' g ↔ G' g) (hP : ∀ x, x < n → Q1 x = P1 x ∧ Q2 x = P2 x ∧ Q3 x = P3 x) (hP' : ∀ x, x < n → Q1' x = P1' x ∧ Q2' x = P2' x ∧ Q3' x = P3' x) (hr : ∀ s, (∀ y, n ≤ y → s y = false) → ∀ g h, rel1 s g h ↔ rel s g h) (hr' : ∀ s, (∀ y, n ≤ y → s y = false) → ∀ g h, rel1' s g h ↔ rel' s g h) (h : phi9 n G G' P1 P2 P3 P1' P2' P3' rel rel' φ) : phi9 n G1 G1' Q1 Q2 Q3 Q1' Q2' Q3' rel1 rel1' φ := by
  refine ⟨fun g hg => (hG _).mpr (h.1 g ((hG' g).mp hg)), fun s hs => ?_⟩
  obtain ⟨a1, a2, a3⟩ := h.2 s hs
  refine ⟨fun g k hg hk => ?_, fun g hg => ?_, fun x hx => ?_⟩
  · rw [hr s hs, hr' s hs]
    exact a1 g k ((hG' g).mp hg) ((hG' k).mp hk)
  · obtain ⟨g', g1, g2⟩ := a2 g ((hG g).mp hg)
    exact ⟨g', (hG' g').mpr g1, (hr s hs _ _).mpr g2⟩
  · obtain ⟨e1, e2, e3⟩ := hP x hx
    obtain ⟨f1, f2, f3⟩ := hP' x hx
    rw [e1, e2, e3, f1, f2, f3, hr s hs, hr s hs, hr s hs]
    exact a3 x hx
/-- the kink at the last crossing -/
def kkO (A : rn_L) (L : List vT) (x : Nat) (r r' : vT) : Prop := L ∈ A ∧ r ∈ L ∧ sc L r = r' ∧ ((r = (x, 0) ∧ r' = (x, 1)) ∨ (r = (x, 1) ∧ r' = (x, 0)))
theorem kk_ne {x : Nat} (h : kkO A L x r r') : r ≠ r' := by
  rcases h.2.2.2 with ⟨e1, e2⟩ | ⟨e1, e2⟩
  · rw [e1, e2]
    exact fun h9 => by cases h9
  · rw [e1, e2]
    exact fun h9 => by cases h9
theorem kk_nm (hO : nmO A nm (n + 1)) (h : kkO A L (nm n) r r') {y u : Nat} (hy : y < n) (hu : u < 2) : (nm y, u) ∈ A.flatten ∧ (nm y, u) ≠ r ∧ (nm y, u) ≠ r' := by
  have ne : nm y ≠ nm n := fun h9 => by
    have := hO.2.1 y n (by omega) (by omega) h9
    omega
  have m : (nm y, u) ∈ A.flatten := by
    obtain ⟨a, b⟩ := hO.1 y (by omega)
    rcases Nat.lt_or_ge u 1 with c | c
    · rw [show u = 0 by omega]
      exact a
    · rw [show u = 1 by omega]
      exact b
  refine ⟨m, ?_, ?_⟩
  · rcases h.2.2.2 with ⟨e1, e2⟩ | ⟨e1, e2⟩
    · rw [e1]
      exact fun h9 => ne (congrArg Prod.fst h9)
    · rw [e1]
      exact fun h9 => ne (congrArg Prod.fst h9)
  · rcases h.2.2.2 with ⟨e1, e2⟩ | ⟨e1, e2⟩
    · rw [e2]
      exact fun h9 => ne (congrArg Prod.fst h9)
    · rw [e2]
      exact fun h9 => ne (congrArg Prod.fst h9)
/-- what the kink joins where its gap is alone -/
theorem kk_jc (hb : bdA A) (h : kkO A L (nm n) r r') {t : Bool} (ht : sg (nm n) = t) {a c : Nat} (hj : jc9 A sg (nm n) t a c) : (a = gV9 r ∧ c = gV9 r) ∨ (a = gV9 (prA9 A r) ∧ c = gV9 r') ∨ (a = gV9 r' ∧ c = gV9 (prA9 A r)) := by
  obtain ⟨hL, hr, e, hc⟩ := h
  have pr' : prA9 A r' = r := prA_eq hb.1 hL hr e
  rcases hj with ⟨-, hj⟩ | ⟨c9, -⟩
  · rcases hc with ⟨e1, e2⟩ | ⟨e1, e2⟩
    · rw [← e1, ← e2, pr'] at hj
      rcases hj with h9 | h9
      · exact Or.inr (Or.inl h9)
      · exact Or.inl h9
    · rw [← e1, ← e2, pr'] at hj
      rcases hj with h9 | h9
      · exact Or.inl h9
      · exact Or.inr (Or.inr h9)
  · exact absurd ht c9
theorem kk_has (hb : bdA A) (h : kkO A L (nm n) r r') {t : Bool} (ht : sg (nm n) = t) : jc9 A sg (nm n) t (gV9 (prA9 A r)) (gV9 r') ∨ jc9 A sg (nm n) t (gV9 r') (gV9 (prA9 A r)) := by
  obtain ⟨hL, hr, e, hc⟩ := h
  rcases hc with ⟨e1, e2⟩ | ⟨e1, e2⟩
  · left
    rw [e1, e2]
    exact Or.inl ⟨ht, Or.inl ⟨rfl, rfl⟩⟩
  · right
    rw [e1, e2]
    exact Or.inl ⟨ht, Or.inr ⟨rfl, rfl⟩⟩
theorem kk_qr (hb : bdA A) {x : Nat} (h : kkO A L x r r') : prA9 A r ≠ r := fun h9 => by
  obtain ⟨-, w2⟩ := prA_of hb.1 h.1 h.2.1
  rw [h9, h.2.2.1] at w2
  exact kk_ne h w2.symm
theorem kk_in (hb : bdA A) {x : Nat} (h : kkO A L x r r') : r ∈ A.flatten ∧ r' ∈ A.flatten := ⟨List.mem_flatten.mpr ⟨L, h.1, h.2.1⟩, List.mem_flatten.mpr ⟨L, h.1, by rw [← h.2.2.1]; exact sc_in h.2.1 (L_nd hb.1 h.1)⟩⟩
/-- ends of the other crossings are other gaps -/
theorem kk_end (hb : bdA A) (hO : nmO A nm (n + 1)) (h : kkO A L (nm n) r r') {y u : Nat} (hy : y < n) (hu : u < 2) : gV9 (nm y, u) ≠ gV9 r ∧ gV9 (prA9 A (nm y, u)) ≠ gV9 r := by
  have u2 : ∀ p, p ∈ A.flatten → p.2 < 2 := fun p hp => (hb.2.1 p hp).2
  obtain ⟨m0, m1, m2⟩ := kk_nm hO h hy hu
  obtain ⟨rA, rA'⟩ := kk_in hb h
  obtain ⟨a1, -, -⟩ := prA_rm hb.1 h.1 h.2.1 h.2.2.1 (kk_ne h) m0 m1 m2
  exact ⟨fun h9 => m1 (gA_inj (u2 _ m0) (u2 _ rA) h9), fun h9 => a1 (gA_inj (u2 _ (prA_in hb.1 m0)) (u2 _ rA) h9)⟩
theorem jc_ends {x : Nat} {t : Bool} {a c o : Nat} (h : ∀ u, u < 2 → gV9 (x, u) ≠ o ∧ gV9 (prA9 A (x, u)) ≠ o) (hj : jc9 A sg x t a c) : a ≠ o ∧ c ≠ o := by
  obtain ⟨h1, h2⟩ := h 0 (by omega)
  obtain ⟨h3, h4⟩ := h 1 (by omega)
  rcases hj with ⟨-, ⟨e1, e2⟩ | ⟨e1, e2⟩⟩ | ⟨-, ⟨e1, e2⟩ | ⟨e1, e2⟩⟩ <;> rw [e1, e2]
  · exact ⟨h2, h3⟩
  · exact ⟨h1, h4⟩
  · exact ⟨h2, h4⟩
  · exact ⟨h1, h3⟩
theorem kk_al (hb : bdA A) (hO : nmO A nm (n + 1)) (h : kkO A L (nm n) r r') (hs : sg (nm n) = s n) : ∀ g, relL9 A sg nm (n + 1) s (gV9 r) g → g = gV9 r := fun g h1 => by
  have u2 : ∀ p, p ∈ A.flatten → p.2 < 2 := fun p hp => (hb.2.1 p hp).2
  obtain ⟨rA, rA'⟩ := kk_in hb h
  have ne1 : gV9 r' ≠ gV9 r := fun h9 => kk_ne h (gA_inj (u2 _ rA) (u2 _ rA') h9.symm)
  have ne2 : gV9 (prA9 A r) ≠ gV9 r := fun h9 => kk_qr hb h (gA_inj (u2 _ (prA_in hb.1 rA)) (u2 _ rA) h9)
  have key := h1 (fun g k => g = k ∨ (g ≠ gV9 r ∧ k ≠ gV9 r)) ⟨fun g => Or.inl rfl, fun g k h9 => h9.elim (fun e => Or.inl e.symm) (fun e => Or.inr e.symm), fun g k l h9 h8 => ?_⟩ (fun a c ⟨y, y1, y2⟩ => ?_)
  · rcases key with e | ⟨e, -⟩
    · exact e.symm
    · exact absurd rfl e
  · rcases h9 with e | ⟨e, e'⟩
    · rw [e]
      exact h8
    · rcases h8 with e2 | ⟨-, e2⟩
      · rw [← e2]
        exact Or.inr ⟨e, e'⟩
      · exact Or.inr ⟨e, e2⟩
  · by_cases c9 : y = n
    · rw [c9] at y2
      rcases kk_jc hb h hs y2 with ⟨e1, e2⟩ | ⟨e1, e2⟩ | ⟨e1, e2⟩
      · left
        rw [e1, e2]
      · right
        rw [e1, e2]
        exact ⟨ne2, ne1⟩
      · right
        rw [e1, e2]
        exact ⟨ne1, ne2⟩
    · exact Or.inr (jc_ends (fun u hu => kk_end hb hO h (by omega) hu) y2)
/-- the relation without the kink's crossing -/
theorem kk_rel (hb : bdA A) (h : kkO A L (nm n) r r') {t : Nat → Bool} (hs : sg (nm n) = s n) (ht : ∀ y, y < n → t y = s y) (g k : Nat) : relL9 A sg nm (n + 1) s g k ↔ relX9 A sg nm n [(r, r')] t g k := by
  constructor
  · refine lst_m (Pr := jp9 A sg nm (n + 1) s) (Pr' := fun a b => jp9 A sg nm n t a b ∨ ∃ z, z ∈ [(r, r')] ∧ a = gV9 (prA9 A z.1) ∧ b = gV9 z.2) ?_
    rintro a c ⟨y, y1, y2⟩
    have hX := lst_e (fun a b => jp9 A sg nm n t a b ∨ ∃ z, z ∈ [(r, r')] ∧ a = gV9 (prA9 A z.1) ∧ b = gV9 z.2)
    have par : relX9 A sg nm n [(r, r')] t (gV9 (prA9 A r)) (gV9 r') := lst_i (Or.inr ⟨(r, r'), List.mem_cons_self, rfl, rfl⟩)
    by_cases c9 : y = n
    · rw [c9] at y2
      rcases kk_jc hb h hs y2 with ⟨e1, e2⟩ | ⟨e1, e2⟩ | ⟨e1, e2⟩
      · rw [e1, e2]
        exact hX.1 _
      · rw [e1, e2]
        exact par
      · rw [e1, e2]
        exact hX.2.1 _ _ par
    · rw [← ht y (by omega)] at y2
      exact lst_i (Or.inl ⟨y, by omega, y2⟩)
  · refine lst_m (Pr := fun a b => jp9 A sg nm n t a b ∨ ∃ z, z ∈ [(r, r')] ∧ a = gV9 (prA9 A z.1) ∧ b = gV9 z.2) (Pr' := jp9 A sg nm (n + 1) s) ?_
    intro a c hac
    have hR := lst_e (jp9 A sg nm (n + 1) s)
    rcases hac with ⟨y, y1, y2⟩ | ⟨z, z1, z2, z3⟩
    · rw [ht y y1] at y2
      exact lst_i ⟨y, by omega, y2⟩
    · rw [List.mem_singleton.mp z1] at z2 z3
      rw [z2, z3]
      rcases kk_has hb h hs with j | j
      · exact lst_i ⟨n, by omega, j⟩
      · exact hR.2.1 _ _ (lst_i ⟨n, by omega, j⟩)
theorem gX_1 (hb : bdA A) (hr : r ∈ A.flatten) (g : Nat) : (gG9 A g ∧ g ≠ gV9 r) ↔ gX9 A [(r, r')] g := by
  have u2 : ∀ p, p ∈ A.flatten → p.2 < 2 := fun p hp => (hb.2.1 p hp).2
  constructor
  · rintro ⟨⟨p, p1, p2⟩ | ⟨i, i1, i2, i3⟩, ho⟩
    · refine Or.inl ⟨p, p1, fun z hz => ?_, p2⟩
      rw [List.mem_singleton.mp hz]
      intro h9
      rw [h9] at p2
      exact ho p2
    · exact Or.inr ⟨i, i1, i2, i3⟩
  · rintro (⟨p, p1, p2, p3⟩ | ⟨i, i1, i2, i3⟩)
    · refine ⟨Or.inl ⟨p, p1, p3⟩, fun h9 => p2 (r, r') List.mem_cons_self (gA_inj (u2 p p1) (u2 r hr) (p3.symm.trans h9))⟩
    · have := gV_lt hb hr
      exact ⟨Or.inr ⟨i, i1, i2, i3⟩, by omega⟩
theorem gX_0 (g : Nat) : gG9 A g ↔ gX9 A [] g := by
  constructor
  · rintro (⟨p, p1, p2⟩ | h)
    · exact Or.inl ⟨p, p1, fun z hz => absurd hz List.not_mem_nil, p2⟩
    · exact Or.inr h
  · rintro (⟨p, p1, -, p2⟩ | h)
    · exact Or.inl ⟨p, p1, p2⟩
    · exact Or.inr h
theorem rX_0 (s : Nat → Bool) (g h : Nat) : relL9 A sg nm n s g h ↔ relX9 A sg nm n [] s g h := lst_iff (fun a b h9 => lst_i (Or.inl h9)) (fun a b h9 => h9.elim lst_i (fun ⟨z, hz, _⟩ => absurd hz List.not_mem_nil)) g h
/-- R1 in lists -/
theorem cR1 {r0 : Nat} (hp : pr9 p) (hi : iv9 p) (hb : bdA A) (hO : nmO A nm (n + 1)) (h : kkO A L (nm n) r r') (hC : cuL9 A sg nm (n + 1)) (hC' : cuL9 (rmv (rmv A r) r') sg nm n) (hB : bL9 p A sg nm (n + 1) k d r0 b) : (sg (nm n) = false → bL9 p (rmv (rmv A r) r') sg nm n k (d + 1) r0 b) ∧ (sg (nm n) = true → 1 ≤ k → bL9 p (rmv (rmv A r) r') sg nm n (k + 1) (d - 2) r0 b) := by
  have u2 : ∀ p, p ∈ A.flatten → p.2 < 2 := fun p hp => (hb.2.1 p hp).2
  obtain ⟨rA, rA'⟩ := kk_in hb h
  have ne1 : gV9 r' ≠ gV9 r := fun h9 => kk_ne h (gA_inj (u2 _ rA) (u2 _ rA') h9.symm)
  have ne2 : gV9 (prA9 A r) ≠ gV9 r := fun h9 => kk_qr hb h (gA_inj (u2 _ (prA_in hb.1 rA)) (u2 _ rA) h9)
  have pr' : prA9 A r' = r := prA_eq hb.1 h.1 h.2.1 h.2.2.1
  -- the ends of the kink, its own gap first
  obtain ⟨Q1, Q2, hq, q1, q2, q3⟩ : ∃ Q1 Q2 : Nat → Nat, (∀ x, x < n + 1 → flp9 (fun y => gV9 (nm y, 0)) (fun y => gV9 (prA9 A (nm y, 0))) (fun y => gV9 (prA9 A (nm y, 0))) Q1 Q2 Q2 x) ∧ Q1 n = gV9 r ∧ Q2 n ≠ gV9 r ∧ ∀ y, y < n → Q1 y = gV9 (nm y, 0) ∧ Q2 y = gV9 (prA9 A (nm y, 0)) := by
    rcases h.2.2.2 with ⟨e1, e2⟩ | ⟨e1, e2⟩
    · refine ⟨fun y => gV9 (nm y, 0), fun y => gV9 (prA9 A (nm y, 0)), fun x _ => Or.inl ⟨rfl, rfl, rfl⟩, by rw [e1], ?_, fun y _ => ⟨rfl, rfl⟩⟩
      show gV9 (prA9 A (nm n, 0)) ≠ gV9 r
      rw [← e1]
      exact ne2
    · refine ⟨fun y => if y = n then gV9 r else gV9 (nm y, 0), fun y => if y = n then gV9 r' else gV9 (prA9 A (nm y, 0)), fun x _ => ?_, if_pos rfl, ?_, fun y hy => ⟨if_neg (by omega), if_neg (by omega)⟩⟩
      · by_cases c : x = n
        · right
          refine ⟨rfl, ?_, ?_, ?_⟩
          · show (if x = n then gV9 r else gV9 (nm x, 0)) = gV9 (prA9 A (nm x, 0))
            rw [if_pos c, c, ← e2, pr']
          · show (if x = n then gV9 r' else gV9 (prA9 A (nm x, 0))) = gV9 (nm x, 0)
            rw [if_pos c, c, ← e2]
          · show (if x = n then gV9 r' else gV9 (prA9 A (nm x, 0))) = gV9 (nm x, 0)
            rw [if_pos c, c, ← e2]
        · left
          exact ⟨if_neg c, if_neg c, if_neg c⟩
      · show (if n = n then gV9 r' else gV9 (prA9 A (nm n, 0))) ≠ gV9 r
        rw [if_pos rfl]
        exact ne1
  have hCq := flp_cu hq hC
  have hBq := be_flp hq hC hB
  have pq : ∀ y, y < n → Q1 y ≠ gV9 r ∧ Q2 y ≠ gV9 r ∧ Q2 y ≠ gV9 r := fun y hy => by
    obtain ⟨e1, e2⟩ := q3 y hy
    obtain ⟨f1, f2⟩ := kk_end hb hO h hy (show 0 < 2 by omega)
    rw [e1, e2]
    exact ⟨f1, f2, f2⟩
  have gr : gG9 A (gV9 r) := Or.inl ⟨r, rA, rfl⟩
  have q3' : ∀ x, x < n → Q1 x = gV9 (nm x, 0) ∧ Q2 x = gV9 (prA9 A (nm x, 0)) ∧ Q2 x = gV9 (prA9 A (nm x, 0)) := fun x hx => ⟨(q3 x hx).1, (q3 x hx).2, (q3 x hx).2⟩
  have R := rmP (sg := sg) (nm := nm) (n := n) (ps := []) hb h.1 h.2.1 h.2.2.1 (kk_ne h) (fun z hz => absurd hz List.not_mem_nil) (fun z hz => absurd hz List.not_mem_nil) (fun y u hy hu => kk_nm hO h hy hu)
  constructor
  · intro hsg
    have kn : knW n (gV9 r) (fun _ => True) Q1 Q2 Q2 (relL9 A sg nm (n + 1)) := ⟨fun s _ hs => kk_al hb hO h (hsg.trans hs.symm), q1, q2, fun y s hy _ _ => pq y hy, fun _ _ _ => trivial, fun _ _ => trivial⟩
    obtain ⟨c1, c2⟩ := r1A hp hi hCq gr kn hBq
    refine be_ph hp hi c1 hC' (ph_cg (gX_1 hb rA) gX_0 q3' (fun x _ => ⟨rfl, rfl, rfl⟩) (fun s hs g k => ?_) (fun s _ => rX_0 s) R) c2
    exact kk_rel hb h (hsg.trans (hs n (Nat.le_refl n)).symm) (fun y _ => rfl) g k
  · intro hsg hk
    have kn : knB n (gV9 r) (fun _ => True) Q1 Q2 Q2 (relL9 A sg nm (n + 1)) := ⟨fun s _ hs => kk_al hb hO h (hsg.trans hs.symm), q1, fun y s hy _ _ => pq y hy, fun _ _ _ _ => trivial, fun _ _ => trivial⟩
    obtain ⟨c1, c2⟩ := r1B hp hi hk hCq gr kn hBq
    refine be_ph hp hi c1 hC' (ph_cg (gX_1 hb rA) gX_0 q3' (fun x _ => ⟨rfl, rfl, rfl⟩) (fun s hs g k => ?_) (fun s _ => rX_0 s) R) c2
    exact kk_rel hb h (hsg.trans on_x.symm) (fun y hy => (on_o (by omega)).symm) g k
end XCHV
end
section
/-! 99zzzzzzzzzzzzzzzzyx.xchm -/
-- CHAIN: a pair of crossings goes out of a list
/-- one gap left out of the labels -/
def rdp9 (o : Nat) (rel : (Nat → Bool) → Nat → Nat → Prop) (s : Nat → Bool) (g h : Nat) : Prop := g = h ∨ (g ≠ o ∧ h ≠ o ∧ rel s g h)
section XCHW
variable {n V o : Nat} {G : Nat → Prop} {P1 P2 P3 : Nat → Nat} {rel : (Nat → Bool) → Nat → Nat → Prop} {s : Nat → Bool}
theorem rdp_y {g h : Nat} (hE : eqv9 (rel s)) (hg : g ≠ o) (hh : h ≠ o) : rdp9 o rel s g h ↔ rel s g h := ⟨fun h9 => h9.elim (fun e => e ▸ hE.1 g) (fun e => e.2.2), fun h9 => Or.inr ⟨hg, hh, h9⟩⟩
theorem rdp_e (hE : eqv9 (rel s)) : eqv9 (rdp9 o rel s) := by
  refine ⟨fun g => Or.inl rfl, fun g h h9 => ?_, fun g h k h9 h8 => ?_⟩
  · rcases h9 with e | ⟨e1, e2, e3⟩
    · exact Or.inl e.symm
    · exact Or.inr ⟨e2, e1, hE.2.1 _ _ e3⟩
  · rcases h9 with e | ⟨e1, e2, e3⟩
    · rw [e]
      exact h8
    · rcases h8 with e | ⟨f1, f2, f3⟩
      · rw [← e]
        exact Or.inr ⟨e1, e2, e3⟩
      · exact Or.inr ⟨e1, f2, hE.2.2 _ _ _ e3 f3⟩
theorem adr_dp {a b g h : Nat} (hE : eqv9 (rel s)) (ha : a ≠ o) (hb : b ≠ o) : adr (rdp9 o rel s) a b g h ↔ (g = h ∨ (g ≠ o ∧ h ≠ o ∧ adr (rel s) a b g h)) := by
  have k : ∀ u c, c ≠ o → rdp9 o rel s u c → u ≠ o ∧ rel s u c := fun u c hc h9 => by
    rcases h9 with e | ⟨e1, e2, e3⟩
    · rw [e]
      exact ⟨hc, hE.1 c⟩
    · exact ⟨e1, e3⟩
  constructor
  · rintro (h9 | ⟨h8, h9⟩ | ⟨h8, h9⟩)
    · rcases h9 with e | ⟨e1, e2, e3⟩
      · exact Or.inl e
      · exact Or.inr ⟨e1, e2, Or.inl e3⟩
    · exact Or.inr ⟨(k _ _ ha h8).1, (k _ _ hb h9).1, Or.inr (Or.inl ⟨(k _ _ ha h8).2, (k _ _ hb h9).2⟩)⟩
    · exact Or.inr ⟨(k _ _ hb h8).1, (k _ _ ha h9).1, Or.inr (Or.inr ⟨(k _ _ hb h8).2, (k _ _ ha h9).2⟩)⟩
  · rintro (e | ⟨e1, e2, h9 | ⟨h8, h9⟩ | ⟨h8, h9⟩⟩)
    · exact Or.inl (Or.inl e)
    · exact Or.inl (Or.inr ⟨e1, e2, h9⟩)
    · exact Or.inr (Or.inl ⟨Or.inr ⟨e1, ha, h8⟩, Or.inr ⟨e2, hb, h9⟩⟩)
    · exact Or.inr (Or.inr ⟨Or.inr ⟨e1, hb, h8⟩, Or.inr ⟨e2, ha, h9⟩⟩)
theorem cu_dp (hC : cu9 n V G P1 P2 P3 rel) (hP : ∀ x, x < n → P1 x ≠ o ∧ P2 x ≠ o ∧ P3 x ≠ o) : cu9 n V (fun g => G g ∧ g ≠ o) P1 P2 P3 (rdp9 o rel) := by
  obtain ⟨⟨hE, hx⟩, h2, h3, h4⟩ := hC
  refine ⟨⟨fun s => rdp_e (hE s), fun s x x1 sx => ?_⟩, fun s hs g h h9 hne => ?_, fun g hg => h3 g hg.1, fun x x1 => ?_⟩
  · obtain ⟨p1, p2, p3⟩ := hP x x1
    rcases hx s x x1 sx with ⟨a, b⟩ | ⟨a, b, c⟩
    · left
      refine ⟨fun h9 => a ((rdp_y (hE s) p1 p3).mp h9), fun g h => ?_⟩
      rw [adr_dp (hE s) p1 p3, ← b g h]
      rfl
    · right
      refine ⟨(rdp_y (hE s) p1 p3).mpr a, fun h9 => b ((rdp_y (hE _) p1 p2).mp h9), fun g h => ?_⟩
      rw [adr_dp (hE _) p1 p2, ← c g h]
      rfl
  · rcases h9 with e | ⟨e1, e2, e3⟩
    · exact absurd e hne
    · obtain ⟨a, b⟩ := h2 s hs g h e3 hne
      exact ⟨⟨a, e1⟩, b, e2⟩
  · obtain ⟨p1, p2, p3⟩ := hP x x1
    obtain ⟨q1, q2, q3⟩ := h4 x x1
    exact ⟨⟨q1, p1⟩, ⟨q2, p2⟩, q3, p3⟩
theorem ph_dp (hE : ∀ s, eqv9 (rel s)) (hal : ∀ s, (∀ y, n ≤ y → s y = false) → ∃ g, G g ∧ g ≠ o ∧ rel s o g) : phi9 n G (fun g => G g ∧ g ≠ o) P1 P2 P3 P1 P2 P3 rel (rdp9 o rel) (fun g => g) := by
  refine ⟨fun g hg => hg.1, fun s hs => ⟨fun g h hg hh => rdp_y (hE s) hg.2 hh.2, fun g hg => ?_, fun x _ => ⟨(hE s).1 _, (hE s).1 _, (hE s).1 _⟩⟩⟩
  by_cases c : g = o
  · obtain ⟨g', a, b, e⟩ := hal s hs
    exact ⟨g', ⟨a, b⟩, by rw [c]; exact e⟩
  · exact ⟨g, ⟨hg, c⟩, (hE s).1 g⟩
end XCHW
/-- the pair -/
def bgO (A : rn_L) (L0 L1 : List vT) (X Y : Nat) (r0 r0' r1 r1' : vT) : Prop := (L0 ∈ A ∧ r0 ∈ L0 ∧ sc L0 r0 = r0') ∧ (L1 ∈ A ∧ r1 ∈ L1 ∧ sc L1 r1 = r1') ∧ X ≠ Y ∧ ((r0 = (X, 0) ∧ r0' = (Y, 0)) ∨ (r0 = (Y, 0) ∧ r0' = (X, 0))) ∧ ((r1 = (X, 1) ∧ r1' = (Y, 1)) ∨ (r1 = (Y, 1) ∧ r1' = (X, 1)))
/-- which of the two is turned where there is a loop between -/
def bgS (sg : Nat → Bool) (X Y : Nat) (r0 r1 : vT) : Prop := (r1.1 = r0.1 ∧ sg X = false ∧ sg Y = true) ∨ (r1.1 ≠ r0.1 ∧ sg X = true ∧ sg Y = false)
section XCHX
variable {A : rn_L} {sg : Nat → Bool} {nm : Nat → Nat} {n k X Y : Nat} {s : Nat → Bool} {L0 L1 : List vT} {r0 r0' r1 r1' : vT} {p d b : Int}
theorem bg_pr (hb : bdA A) (h : bgO A L0 L1 X Y r0 r0' r1 r1') : prA9 A r0' = r0 ∧ prA9 A r1' = r1 := ⟨prA_eq hb.1 h.1.1 h.1.2.1 h.1.2.2, prA_eq hb.1 h.2.1.1 h.2.1.2.1 h.2.1.2.2⟩
theorem bg_lp (hb : bdA A) (h : bgO A L0 L1 X Y r0 r0' r1 r1') (hs : bgS sg X Y r0 r1) {a c : Nat} (hj : jc9 A sg X true a c ∨ jc9 A sg Y false a c) : (a = gV9 r0 ∧ c = gV9 r1) ∨ ((a = gV9 (prA9 A r0) ∨ a = gV9 r0') ∧ (c = gV9 (prA9 A r1) ∨ c = gV9 r1')) := by
  obtain ⟨p0, p1⟩ := bg_pr hb h
  obtain ⟨-, -, hne, c0, c1⟩ := h
  have hne' : ¬ Y = X := fun h9 => hne h9.symm
  rcases c0 with ⟨rfl, rfl⟩ | ⟨rfl, rfl⟩ <;> rcases c1 with ⟨rfl, rfl⟩ | ⟨rfl, rfl⟩ <;> rcases hs with ⟨e, e1, e2⟩ | ⟨e, e1, e2⟩ <;> first | exact absurd rfl e | exact absurd e hne | exact absurd e hne' | (simp only [jc9, e1, e2, p0, p1] at hj; simp at hj; rcases hj with (⟨e3, e4⟩ | ⟨e3, e4⟩) | (⟨e3, e4⟩ | ⟨e3, e4⟩) <;> rw [e3, e4] <;> simp)
theorem bg_th (hb : bdA A) (h : bgO A L0 L1 X Y r0 r0' r1 r1') (hs : bgS sg X Y r0 r1) {a c : Nat} (hj : jc9 A sg X false a c ∨ jc9 A sg Y true a c) : ((a = gV9 (prA9 A r0) ∨ a = gV9 r0') ∧ c = gV9 r1) ∨ (a = gV9 r0 ∧ (c = gV9 (prA9 A r1) ∨ c = gV9 r1')) := by
  obtain ⟨p0, p1⟩ := bg_pr hb h
  obtain ⟨-, -, hne, c0, c1⟩ := h
  have hne' : ¬ Y = X := fun h9 => hne h9.symm
  rcases c0 with ⟨rfl, rfl⟩ | ⟨rfl, rfl⟩ <;> rcases c1 with ⟨rfl, rfl⟩ | ⟨rfl, rfl⟩ <;> rcases hs with ⟨e, e1, e2⟩ | ⟨e, e1, e2⟩ <;> first | exact absurd rfl e | exact absurd e hne | exact absurd e hne' | (simp only [jc9, e1, e2, p0, p1] at hj; simp at hj; rcases hj with (⟨e3, e4⟩ | ⟨e3, e4⟩) | (⟨e3, e4⟩ | ⟨e3, e4⟩) <;> rw [e3, e4] <;> simp)
/-- all four joins of the way through -/
theorem bg_ht (hb : bdA A) (h : bgO A L0 L1 X Y r0 r0' r1 r1') (hs : bgS sg X Y r0 r1) : (jc9 A sg X false (gV9 (prA9 A r0)) (gV9 r1) ∨ jc9 A sg Y true (gV9 (prA9 A r0)) (gV9 r1)) ∧ (jc9 A sg X false (gV9 r0') (gV9 r1) ∨ jc9 A sg Y true (gV9 r0') (gV9 r1)) ∧ (jc9 A sg X false (gV9 r0) (gV9 (prA9 A r1)) ∨ jc9 A sg Y true (gV9 r0) (gV9 (prA9 A r1))) ∧ (jc9 A sg X false (gV9 r0) (gV9 r1') ∨ jc9 A sg Y true (gV9 r0) (gV9 r1')) := by
  obtain ⟨p0, p1⟩ := bg_pr hb h
  obtain ⟨-, -, hne, c0, c1⟩ := h
  have hne' : ¬ Y = X := fun h9 => hne h9.symm
  rcases c0 with ⟨rfl, rfl⟩ | ⟨rfl, rfl⟩ <;> rcases c1 with ⟨rfl, rfl⟩ | ⟨rfl, rfl⟩ <;> rcases hs with ⟨e, e1, e2⟩ | ⟨e, e1, e2⟩ <;> first | exact absurd rfl e | exact absurd e hne | exact absurd e hne' | (simp only [jc9, e1, e2, p0, p1]; simp)
/-- the gap between the visits under is never alone -/
theorem bg_g1 (hb : bdA A) (h : bgO A L0 L1 X Y r0 r0' r1 r1') (t : Bool) : ∃ a, (a = gV9 (X, 0) ∨ a = gV9 (prA9 A (X, 0))) ∧ jc9 A sg X t a (gV9 r1) := by
  obtain ⟨p0, p1⟩ := bg_pr hb h
  obtain ⟨-, -, hne, c0, c1⟩ := h
  rcases c1 with ⟨rfl, rfl⟩ | ⟨rfl, rfl⟩
  · by_cases c : sg X = t
    · exact ⟨_, Or.inr rfl, Or.inl ⟨c, Or.inl ⟨rfl, rfl⟩⟩⟩
    · exact ⟨_, Or.inl rfl, Or.inr ⟨c, Or.inr ⟨rfl, rfl⟩⟩⟩
  · by_cases c : sg X = t
    · exact ⟨_, Or.inl rfl, Or.inl ⟨c, Or.inr ⟨rfl, by rw [p1]⟩⟩⟩
    · exact ⟨_, Or.inr rfl, Or.inr ⟨c, Or.inl ⟨rfl, by rw [p1]⟩⟩⟩
theorem bg_in (hb : bdA A) (h : bgO A L0 L1 X Y r0 r0' r1 r1') : (r0 ∈ A.flatten ∧ r0' ∈ A.flatten) ∧ r1 ∈ A.flatten ∧ r1' ∈ A.flatten := by
  obtain ⟨⟨a1, a2, a3⟩, ⟨b1, b2, b3⟩, -⟩ := h
  refine ⟨⟨List.mem_flatten.mpr ⟨L0, a1, a2⟩, List.mem_flatten.mpr ⟨L0, a1, ?_⟩⟩, List.mem_flatten.mpr ⟨L1, b1, b2⟩, List.mem_flatten.mpr ⟨L1, b1, ?_⟩⟩
  · rw [← a3]
    exact sc_in a2 (L_nd hb.1 a1)
  · rw [← b3]
    exact sc_in b2 (L_nd hb.1 b1)
/-- the kinds of the four visits -/
theorem bg_kd (h : bgO A L0 L1 X Y r0 r0' r1 r1') : r0.2 = 0 ∧ r0'.2 = 0 ∧ r1.2 = 1 ∧ r1'.2 = 1 ∧ r0 ≠ r0' ∧ r1 ≠ r1' ∧ (r0.1 = X ∨ r0.1 = Y) ∧ (r0'.1 = X ∨ r0'.1 = Y) ∧ (r1.1 = X ∨ r1.1 = Y) ∧ (r1'.1 = X ∨ r1'.1 = Y) := by
  obtain ⟨-, -, hne, c0, c1⟩ := h
  have hne' : ¬ Y = X := fun h9 => hne h9.symm
  rcases c0 with ⟨rfl, rfl⟩ | ⟨rfl, rfl⟩ <;> rcases c1 with ⟨rfl, rfl⟩ | ⟨rfl, rfl⟩ <;> simp [hne, hne']
/-- a gap before a visit is one of the two between only before the second visit -/
theorem bg_bf (hb : bdA A) (h : bgO A L0 L1 X Y r0 r0' r1 r1') {q : vT} (hq : q ∈ A.flatten) : (gV9 (prA9 A q) = gV9 r0 → q = r0') ∧ (gV9 (prA9 A q) = gV9 r1 → q = r1') := by
  have u2 : ∀ p, p ∈ A.flatten → p.2 < 2 := fun p hp => (hb.2.1 p hp).2
  obtain ⟨⟨i0, -⟩, i1, -⟩ := bg_in hb h
  obtain ⟨L, hL, hqL⟩ := List.mem_flatten.mp hq
  obtain ⟨m1, m2⟩ := prA_of hb.1 hL hqL
  constructor
  · intro e
    have e := gA_inj (u2 _ (prA_in hb.1 hq)) (u2 _ i0) e
    rw [e] at m1 m2
    rw [← m2, same_L hb.1 h.1.1 hL h.1.2.1 m1]
    exact h.1.2.2
  · intro e
    have e := gA_inj (u2 _ (prA_in hb.1 hq)) (u2 _ i1) e
    rw [e] at m1 m2
    rw [← m2, same_L hb.1 h.2.1.1 hL h.2.1.2.1 m1]
    exact h.2.1.2.2
/-- the ends of other crossings -/
theorem bg_end (hb : bdA A) (hO : nmO A nm (n + 2)) (h : bgO A L0 L1 (nm n) (nm (n + 1)) r0 r0' r1 r1') {y u : Nat} (hy : y < n) (hu : u < 2) : (nm y, u) ∈ A.flatten ∧ ((nm y, u) ≠ r0 ∧ (nm y, u) ≠ r0' ∧ (nm y, u) ≠ r1 ∧ (nm y, u) ≠ r1') ∧ (gV9 (nm y, u) ≠ gV9 r0 ∧ gV9 (nm y, u) ≠ gV9 r1) ∧ gV9 (prA9 A (nm y, u)) ≠ gV9 r0 ∧ gV9 (prA9 A (nm y, u)) ≠ gV9 r1 := by
  have u2 : ∀ p, p ∈ A.flatten → p.2 < 2 := fun p hp => (hb.2.1 p hp).2
  have ne1 : nm y ≠ nm n := fun h9 => by
    have := hO.2.1 y n (by omega) (by omega) h9
    omega
  have ne2 : nm y ≠ nm (n + 1) := fun h9 => by
    have := hO.2.1 y (n + 1) (by omega) (by omega) h9
    omega
  have m : (nm y, u) ∈ A.flatten := by
    obtain ⟨a, b⟩ := hO.1 y (by omega)
    rcases Nat.lt_or_ge u 1 with c | c
    · rw [show u = 0 by omega]
      exact a
    · rw [show u = 1 by omega]
      exact b
  obtain ⟨-, -, -, -, -, -, k0, k0', k1, k1'⟩ := bg_kd h
  have nq : ∀ q : vT, (q.1 = nm n ∨ q.1 = nm (n + 1)) → (nm y, u) ≠ q := fun q hq h9 => by
    rw [← h9] at hq
    exact hq.elim ne1 ne2
  obtain ⟨⟨i0, -⟩, i1, -⟩ := bg_in hb h
  obtain ⟨f0, f1⟩ := bg_bf hb h m
  exact ⟨m, ⟨nq _ k0, nq _ k0', nq _ k1, nq _ k1'⟩, ⟨fun h9 => nq _ k0 (gA_inj (u2 _ m) (u2 _ i0) h9), fun h9 => nq _ k1 (gA_inj (u2 _ m) (u2 _ i1) h9)⟩, fun h9 => nq _ k0' (f0 h9), fun h9 => nq _ k1' (f1 h9)⟩
/-- the six gaps -/
theorem bg_six (hb : bdA A) (h : bgO A L0 L1 X Y r0 r0' r1 r1') : gV9 r0 ≠ gV9 r1 ∧ (gV9 (prA9 A r0) ≠ gV9 r0 ∧ gV9 (prA9 A r0) ≠ gV9 r1) ∧ (gV9 r0' ≠ gV9 r0 ∧ gV9 r0' ≠ gV9 r1) ∧ (gV9 (prA9 A r1) ≠ gV9 r0 ∧ gV9 (prA9 A r1) ≠ gV9 r1) ∧ gV9 r1' ≠ gV9 r0 ∧ gV9 r1' ≠ gV9 r1 := by
  have u2 : ∀ p, p ∈ A.flatten → p.2 < 2 := fun p hp => (hb.2.1 p hp).2
  obtain ⟨⟨i0, i0'⟩, i1, i1'⟩ := bg_in hb h
  obtain ⟨z0, z0', z1, z1', n0, n1, -⟩ := bg_kd h
  have nv : ∀ q q' : vT, q ∈ A.flatten → q' ∈ A.flatten → q ≠ q' → gV9 q ≠ gV9 q' := fun q q' h1 h2 h3 h9 => h3 (gA_inj (u2 _ h1) (u2 _ h2) h9)
  have n2 : ∀ q q' : vT, q.2 ≠ q'.2 → q ≠ q' := fun q q' h1 h9 => h1 (congrArg Prod.snd h9)
  obtain ⟨a0, a1⟩ := bg_bf hb h i0
  obtain ⟨b0, b1⟩ := bg_bf hb h i1
  exact ⟨nv _ _ i0 i1 (n2 _ _ (by omega)), ⟨fun h9 => n0 (a0 h9), fun h9 => n2 r0 r1' (by omega) (a1 h9)⟩, ⟨nv _ _ i0' i0 (fun h9 => n0 h9.symm), nv _ _ i0' i1 (n2 _ _ (by omega))⟩, ⟨fun h9 => n2 r1 r0' (by omega) (b0 h9), fun h9 => n1 (b1 h9)⟩, nv _ _ i1' i0 (n2 _ _ (by omega)), nv _ _ i1' i1 (fun h9 => n1 h9.symm)⟩
/-- the loop between the two -/
theorem bg_al (hb : bdA A) (hO : nmO A nm (n + 2)) (h : bgO A L0 L1 (nm n) (nm (n + 1)) r0 r0' r1 r1') (hs : bgS sg (nm n) (nm (n + 1)) r0 r1) (s1 : s n = true) (s2 : s (n + 1) = false) : ∀ g, relL9 A sg nm (n + 2) s (gV9 r0) g → g = gV9 r0 ∨ g = gV9 r1 := fun g h1 => by
  obtain ⟨x1, ⟨x2, x3⟩, ⟨x4, x5⟩, ⟨x6, x7⟩, x8, x9⟩ := bg_six hb h
  have key := h1 (fun u v => (u = gV9 r0 ∨ u = gV9 r1) ↔ (v = gV9 r0 ∨ v = gV9 r1)) ⟨fun _ => Iff.rfl, fun _ _ h9 => h9.symm, fun _ _ _ h9 h8 => h9.trans h8⟩ (fun a c ⟨y, y1, y2⟩ => ?_)
  · exact key.mp (Or.inl rfl)
  · by_cases c1 : y < n
    · have en := jc_ends (o := gV9 r0) (fun u hu => ⟨(bg_end hb hO h c1 hu).2.2.1.1, (bg_end hb hO h c1 hu).2.2.2.1⟩) y2
      have en' := jc_ends (o := gV9 r1) (fun u hu => ⟨(bg_end hb hO h c1 hu).2.2.1.2, (bg_end hb hO h c1 hu).2.2.2.2⟩) y2
      exact ⟨fun h9 => absurd h9 (fun h8 => h8.elim en.1 en'.1), fun h9 => absurd h9 (fun h8 => h8.elim en.2 en'.2)⟩
    · have hj : jc9 A sg (nm n) true a c ∨ jc9 A sg (nm (n + 1)) false a c := by
        rcases (show y = n ∨ y = n + 1 by omega) with e | e
        · rw [e, s1] at y2
          exact Or.inl y2
        · rw [e, s2] at y2
          exact Or.inr y2
      rcases bg_lp hb h hs hj with ⟨e1, e2⟩ | ⟨e1, e2⟩
      · rw [e1, e2]
        exact ⟨fun _ => Or.inr rfl, fun _ => Or.inl rfl⟩
      · have na : ¬ (a = gV9 r0 ∨ a = gV9 r1) := by
          rcases e1 with e | e <;> rw [e]
          · exact fun h8 => h8.elim x2 x3
          · exact fun h8 => h8.elim x4 x5
        have nc : ¬ (c = gV9 r0 ∨ c = gV9 r1) := by
          rcases e2 with e | e <;> rw [e]
          · exact fun h8 => h8.elim x6 x7
          · exact fun h8 => h8.elim x8 x9
        exact ⟨fun h9 => absurd h9 na, fun h9 => absurd h9 nc⟩
/-- the way through -/
theorem bg_rel (hb : bdA A) (hO : nmO A nm (n + 2)) (h : bgO A L0 L1 (nm n) (nm (n + 1)) r0 r0' r1 r1') (hs : bgS sg (nm n) (nm (n + 1)) r0 r1) {t : Nat → Bool} (s1 : s n = false) (s2 : s (n + 1) = true) (ht : ∀ y, y < n → t y = s y) {g k : Nat} (g1 : g ≠ gV9 r0 ∧ g ≠ gV9 r1) (k1 : k ≠ gV9 r0 ∧ k ≠ gV9 r1) : relX9 A sg nm n [(r0, r0'), (r1, r1')] t g k ↔ relL9 A sg nm (n + 2) s g k := by
  obtain ⟨x1, ⟨x2, x3⟩, ⟨x4, x5⟩, ⟨x6, x7⟩, x8, x9⟩ := bg_six hb h
  obtain ⟨j1, j2, j3, j4⟩ := bg_ht hb h hs
  have up : ∀ {a c : Nat}, (jc9 A sg (nm n) false a c ∨ jc9 A sg (nm (n + 1)) true a c) → relL9 A sg nm (n + 2) s a c := fun {a c} h9 => by
    rcases h9 with h9 | h9
    · exact lst_i ⟨n, by omega, by rw [s1]; exact h9⟩
    · exact lst_i ⟨n + 1, by omega, by rw [s2]; exact h9⟩
  have E := lst_e (jp9 A sg nm (n + 2) s)
  have E' := lst_e (fun a b => jp9 A sg nm n t a b ∨ ∃ z, z ∈ [(r0, r0'), (r1, r1')] ∧ a = gV9 (prA9 A z.1) ∧ b = gV9 z.2)
  have q0 : relX9 A sg nm n [(r0, r0'), (r1, r1')] t (gV9 (prA9 A r0)) (gV9 r0') := lst_i (Or.inr ⟨(r0, r0'), List.mem_cons_self, rfl, rfl⟩)
  have q1 : relX9 A sg nm n [(r0, r0'), (r1, r1')] t (gV9 (prA9 A r1)) (gV9 r1') := lst_i (Or.inr ⟨(r1, r1'), List.mem_cons_of_mem _ List.mem_cons_self, rfl, rfl⟩)
  constructor
  · refine lst_m (Pr := fun a b => jp9 A sg nm n t a b ∨ ∃ z, z ∈ [(r0, r0'), (r1, r1')] ∧ a = gV9 (prA9 A z.1) ∧ b = gV9 z.2) (Pr' := jp9 A sg nm (n + 2) s) ?_
    intro a c h9
    rcases h9 with ⟨y, y1, y2⟩ | ⟨z, z1, z2, z3⟩
    · exact lst_i ⟨y, by omega, by rw [← ht y y1]; exact y2⟩
    · rcases List.mem_cons.mp z1 with e | e
      · rw [z2, z3, e]
        exact E.2.2 _ _ _ (up j1) (E.2.1 _ _ (up j2))
      · rw [List.mem_singleton.mp e] at z2 z3
        rw [z2, z3]
        exact E.2.2 _ _ _ (E.2.1 _ _ (up j3)) (up j4)
  · intro h1
    have key := h1 (fun u v => relX9 A sg nm n [(r0, r0'), (r1, r1')] t (if u = gV9 r0 then gV9 r1' else if u = gV9 r1 then gV9 r0' else u) (if v = gV9 r0 then gV9 r1' else if v = gV9 r1 then gV9 r0' else v)) (eqv_pb E' (fun u => if u = gV9 r0 then gV9 r1' else if u = gV9 r1 then gV9 r0' else u)) (fun a c ⟨y, y1, y2⟩ => ?_)
    · rw [if_neg g1.1, if_neg g1.2, if_neg k1.1, if_neg k1.2] at key
      exact key
    · by_cases c1 : y < n
      · have en := jc_ends (o := gV9 r0) (fun u hu => ⟨(bg_end hb hO h c1 hu).2.2.1.1, (bg_end hb hO h c1 hu).2.2.2.1⟩) y2
        have en' := jc_ends (o := gV9 r1) (fun u hu => ⟨(bg_end hb hO h c1 hu).2.2.1.2, (bg_end hb hO h c1 hu).2.2.2.2⟩) y2
        show relX9 A sg nm n [(r0, r0'), (r1, r1')] t (if a = gV9 r0 then gV9 r1' else if a = gV9 r1 then gV9 r0' else a) (if c = gV9 r0 then gV9 r1' else if c = gV9 r1 then gV9 r0' else c)
        rw [if_neg en.1, if_neg en'.1, if_neg en.2, if_neg en'.2]
        exact lst_i (Or.inl ⟨y, c1, by rw [ht y c1]; exact y2⟩)
      · have hj : jc9 A sg (nm n) false a c ∨ jc9 A sg (nm (n + 1)) true a c := by
          rcases (show y = n ∨ y = n + 1 by omega) with e | e
          · rw [e, s1] at y2
            exact Or.inl y2
          · rw [e, s2] at y2
            exact Or.inr y2
        show relX9 A sg nm n [(r0, r0'), (r1, r1')] t (if a = gV9 r0 then gV9 r1' else if a = gV9 r1 then gV9 r0' else a) (if c = gV9 r0 then gV9 r1' else if c = gV9 r1 then gV9 r0' else c)
        rcases bg_th hb h hs hj with ⟨e1, e2⟩ | ⟨e1, e2⟩
        · have x1' : ¬ gV9 r1 = gV9 r0 := fun h9 => x1 h9.symm
          rcases e1 with e | e
          · rw [e, e2, if_neg x2, if_neg x3, if_neg x1', if_pos rfl]
            exact q0
          · rw [e, e2, if_neg x4, if_neg x5, if_neg x1', if_pos rfl]
            exact E'.1 _
        · rw [e1, if_pos rfl]
          rcases e2 with e | e
          · rw [e, if_neg x6, if_neg x7]
            exact E'.2.1 _ _ q1
          · rw [e, if_neg x8, if_neg x9]
            exact E'.1 _
end XCHX
end
section
/-! 99zzzzzzzzzzzzzzzzyy.xchn -/
-- CHAIN: R2 in lists
section XCHY
variable {A : rn_L} {sg : Nat → Bool} {nm : Nat → Nat} {n k X Y : Nat} {s : Nat → Bool} {L L0 L1 : List vT} {r r' r0 r0' r1 r1' q : vT} {p d b : Int}
theorem pr_bf (hn : A.flatten.Nodup) (hL : L ∈ A) (hr : r ∈ L) (e : sc L r = r') (hq : q ∈ A.flatten) (h : prA9 A q = r) : q = r' := by
  obtain ⟨N, hN, hqN⟩ := List.mem_flatten.mp hq
  obtain ⟨m1, m2⟩ := prA_of hn hN hqN
  rw [h] at m1 m2
  rw [← m2, same_L hn hL hN hr m1]
  exact e
theorem gX_n (hb : bdA A) (h : bgO A L0 L1 X Y r0 r0' r1 r1') {g : Nat} (hg : gX9 A [(r0, r0'), (r1, r1')] g) : gG9 A g ∧ g ≠ gV9 r0 ∧ g ≠ gV9 r1 := by
  have u2 : ∀ p, p ∈ A.flatten → p.2 < 2 := fun p hp => (hb.2.1 p hp).2
  obtain ⟨⟨i0, -⟩, i1, -⟩ := bg_in hb h
  rcases hg with ⟨p, p1, p2, p3⟩ | ⟨i, i1', i2, i3⟩
  · rw [p3]
    exact ⟨Or.inl ⟨p, p1, rfl⟩, fun h9 => p2 (r0, r0') List.mem_cons_self (gA_inj (u2 _ p1) (u2 _ i0) h9), fun h9 => p2 (r1, r1') (List.mem_cons_of_mem _ List.mem_cons_self) (gA_inj (u2 _ p1) (u2 _ i1) h9)⟩
  · have := gV_lt hb i0
    have := gV_lt hb i1
    exact ⟨Or.inr ⟨i, i1', i2, i3⟩, by omega, by omega⟩
theorem bg_pa (hb : bdA A) (hO : nmO A nm (n + 2)) (h : bgO A L0 L1 (nm n) (nm (n + 1)) r0 r0' r1 r1') (hs : bgS sg (nm n) (nm (n + 1)) r0 r1) {Q1 Q2 : Nat → Nat} (hQ : ∀ y, y < n → Q1 y = gV9 (nm y, 0) ∧ Q2 y = gV9 (prA9 A (nm y, 0))) : phi9 n (fun g => gG9 A g ∧ g ≠ gV9 r1) (gX9 A [(r0, r0'), (r1, r1')]) Q1 Q2 Q2 (fun y => gV9 (nm y, 0)) (fun y => gV9 (prA9 A (nm y, 0))) (fun y => gV9 (prA9 A (nm y, 0))) (fun s => rdp9 (gV9 r1) (relL9 A sg nm (n + 2)) (on9 s (n + 1))) (relX9 A sg nm n [(r0, r0'), (r1, r1')]) (fun g => g) := by
  obtain ⟨x1, -, -, -, x8, x9⟩ := bg_six hb h
  obtain ⟨⟨i0, -⟩, i1, i1'⟩ := bg_in hb h
  obtain ⟨z0, z0', z1, z1', n0, n1, -⟩ := bg_kd h
  have u2 : ∀ p, p ∈ A.flatten → p.2 < 2 := fun p hp => (hb.2.1 p hp).2
  refine ⟨fun g hg => ⟨(gX_n hb h hg).1, (gX_n hb h hg).2.2⟩, fun s hs0 => ?_⟩
  have E := lst_e (jp9 A sg nm (n + 2) (on9 s (n + 1)))
  have s1 : on9 s (n + 1) n = false := by
    rw [on_o (by omega)]
    exact hs0 n (Nat.le_refl n)
  have s2 : on9 s (n + 1) (n + 1) = true := on_x
  refine ⟨fun g k hg hk => ?_, fun g hg => ?_, fun x hx => ?_⟩
  · obtain ⟨-, g1, g2⟩ := gX_n hb h hg
    obtain ⟨-, k1, k2⟩ := gX_n hb h hk
    rw [bg_rel hb hO h hs s1 s2 (fun y hy => (on_o (by omega)).symm) ⟨g1, g2⟩ ⟨k1, k2⟩]
    exact (rdp_y (rel := relL9 A sg nm (n + 2)) (s := on9 s (n + 1)) E g2 k2).symm
  · by_cases c : g = gV9 r0
    · refine ⟨gV9 r1', Or.inl ⟨r1', i1', fun z hz => ?_, rfl⟩, ?_⟩
      · rcases List.mem_cons.mp hz with e | e
        · rw [e]
          exact fun h9 => by
            have := congrArg Prod.snd h9
            simp only [] at this
            omega
        · rw [List.mem_singleton.mp e]
          exact fun h9 => n1 h9.symm
      · obtain ⟨-, -, -, j4⟩ := bg_ht hb h hs
        rw [c]
        refine Or.inr ⟨x1, x9, ?_⟩
        rcases j4 with j | j
        · exact lst_i ⟨n, by omega, by rw [s1]; exact j⟩
        · exact lst_i ⟨n + 1, by omega, by rw [s2]; exact j⟩
    · refine ⟨g, ?_, Or.inl rfl⟩
      rcases hg with ⟨⟨p, p1, p2⟩ | h9, hne⟩
      · refine Or.inl ⟨p, p1, fun z hz => ?_, p2⟩
        rcases List.mem_cons.mp hz with e | e
        · rw [e]
          exact fun h9 => c (by rw [p2, h9])
        · rw [List.mem_singleton.mp e]
          exact fun h9 => hne (by rw [p2, h9])
      · exact Or.inr h9
  · obtain ⟨e1, e2⟩ := hQ x hx
    exact ⟨Or.inl e1, Or.inl e2, Or.inl e2⟩
/-- both pairs of visits out -/
theorem bg_pb (hb : bdA A) (hO : nmO A nm (n + 2)) (h : bgO A L0 L1 (nm n) (nm (n + 1)) r0 r0' r1 r1') : phi9 n (gX9 A [(r0, r0'), (r1, r1')]) (gG9 (rmv (rmv (rmv (rmv A r0) r0') r1) r1')) (fun y => gV9 (nm y, 0)) (fun y => gV9 (prA9 A (nm y, 0))) (fun y => gV9 (prA9 A (nm y, 0))) (fun y => gV9 (nm y, 0)) (fun y => gV9 (prA9 (rmv (rmv (rmv (rmv A r0) r0') r1) r1') (nm y, 0))) (fun y => gV9 (prA9 (rmv (rmv (rmv (rmv A r0) r0') r1) r1') (nm y, 0))) (relX9 A sg nm n [(r0, r0'), (r1, r1')]) (relL9 (rmv (rmv (rmv (rmv A r0) r0') r1) r1') sg nm n) (fun g => fmv9 A r0' (fmv9 (rmv (rmv A r0) r0') r1' g)) := by
  obtain ⟨z0, z0', z1, z1', n0, n1, -⟩ := bg_kd h
  have n2 : ∀ q q' : vT, q.2 ≠ q'.2 → q ≠ q' := fun q q' h1 h9 => h1 (congrArg Prod.snd h9)
  have d1 : r1 ≠ r0 := n2 _ _ (by omega)
  have d2 : r1 ≠ r0' := n2 _ _ (by omega)
  have d3 : r1' ≠ r0 := n2 _ _ (by omega)
  have d4 : r1' ≠ r0' := n2 _ _ (by omega)
  have hb1 : bdA (rmv (rmv A r0) r0') := rm_bd hb
  obtain ⟨⟨a1, a2, a3⟩, ⟨b1, b2, b3⟩, -⟩ := id h
  have hn1 := L_nd hb.1 b1
  have hL1 : (L1.filter (fun q => decide (q ≠ r0))).filter (fun q => decide (q ≠ r0')) ∈ rmv (rmv A r0) r0' := List.mem_map.mpr ⟨_, List.mem_map.mpr ⟨L1, b1, rfl⟩, rfl⟩
  have m1 : r1 ∈ L1.filter (fun q => decide (q ≠ r0)) := List.mem_filter.mpr ⟨b2, decide_eq_true d1⟩
  have m2 : r1 ∈ (L1.filter (fun q => decide (q ≠ r0))).filter (fun q => decide (q ≠ r0')) := List.mem_filter.mpr ⟨m1, decide_eq_true d2⟩
  have s1 : sc ((L1.filter (fun q => decide (q ≠ r0))).filter (fun q => decide (q ≠ r0'))) r1 = r1' := by
    rw [sc_fil (hn1.filter _) m1 d2, sc_fil hn1 b2 d1, b3, if_neg d3, if_neg d4]
  have en := fun {y u : Nat} (hy : y < n) (hu : u < 2) => bg_end hb hO h hy hu
  have R1 := rmP (sg := sg) (nm := nm) (n := n) (ps := [(r1, r1')]) hb a1 a2 a3 n0 (fun z hz => by
    rw [List.mem_singleton.mp hz]
    exact ⟨L1, b1, b2, b3, n1⟩) (fun z hz => by
    rw [List.mem_singleton.mp hz]
    exact ⟨⟨d1, d2⟩, d3, d4⟩) (fun y u hy hu => ⟨(en hy hu).1, (en hy hu).2.1.1, (en hy hu).2.1.2.1⟩)
  have R2 := rmP (A := rmv (rmv A r0) r0') (sg := sg) (nm := nm) (n := n) (ps := []) hb1 hL1 m2 s1 n1 (fun z hz => absurd hz List.not_mem_nil) (fun z hz => absurd hz List.not_mem_nil) (fun y u hy hu => ⟨rm_in.mpr ⟨(en hy hu).1, (en hy hu).2.1.1, (en hy hu).2.1.2.1⟩, (en hy hu).2.1.2.2.1, (en hy hu).2.1.2.2.2⟩)
  have i1 : ∀ y, y < n → (nm y, 0) ∈ (rmv (rmv A r0) r0').flatten := fun y hy => rm_in.mpr ⟨(en hy (show 0 < 2 by omega)).1, (en hy (show 0 < 2 by omega)).2.1.1, (en hy (show 0 < 2 by omega)).2.1.2.1⟩
  have i2 : ∀ y, y < n → (nm y, 0) ∈ (rmv (rmv (rmv (rmv A r0) r0') r1) r1').flatten := fun y hy => rm_in.mpr ⟨i1 y hy, (en hy (show 0 < 2 by omega)).2.1.2.2.1, (en hy (show 0 < 2 by omega)).2.1.2.2.2⟩
  have nz : ∀ y, y < n → (nm y, 0) ≠ r1' := fun y hy => (en hy (show 0 < 2 by omega)).2.1.2.2.2
  have C := ph_cmp (fun s => lst_e _) R1 R2 (fun x hx => by
    have q1 : gX9 (rmv (rmv A r0) r0') [(r1, r1')] (gV9 (nm x, 0)) := Or.inl ⟨_, i1 x hx, fun z hz => by
      rw [List.mem_singleton.mp hz]
      exact (en hx (show 0 < 2 by omega)).2.1.2.2.1, rfl⟩
    have q2 : gX9 (rmv (rmv A r0) r0') [(r1, r1')] (gV9 (prA9 (rmv (rmv A r0) r0') (nm x, 0))) := Or.inl ⟨_, prA_in hb1.1 (i1 x hx), fun z hz => by
      rw [List.mem_singleton.mp hz]
      exact fun h9 => nz x hx (pr_bf hb1.1 hL1 m2 s1 (i1 x hx) h9), rfl⟩
    exact ⟨q1, q2, q2⟩) (fun x hx => by
    have q1 : gX9 (rmv (rmv (rmv (rmv A r0) r0') r1) r1') [] (gV9 (nm x, 0)) := Or.inl ⟨_, i2 x hx, fun z hz => absurd hz List.not_mem_nil, rfl⟩
    have q2 : gX9 (rmv (rmv (rmv (rmv A r0) r0') r1) r1') [] (gV9 (prA9 (rmv (rmv (rmv (rmv A r0) r0') r1) r1') (nm x, 0))) := Or.inl ⟨_, prA_in (rm_bd hb1).1 (i2 x hx), fun z hz => absurd hz List.not_mem_nil, rfl⟩
    exact ⟨q1, q2, q2⟩)
  exact ph_cg (fun _ => Iff.rfl) gX_0 (fun x _ => ⟨rfl, rfl, rfl⟩) (fun x _ => ⟨rfl, rfl, rfl⟩) (fun s _ g h => Iff.rfl) (fun s _ => rX_0 s) C
/-- R2 in lists -/
theorem cR2 {r9 : Nat} (hp : pr9 p) (hi : iv9 p) (hk : 1 ≤ k) (hb : bdA A) (hO : nmO A nm (n + 2)) (h : bgO A L0 L1 (nm n) (nm (n + 1)) r0 r0' r1 r1') (hs : bgS sg (nm n) (nm (n + 1)) r0 r1) (hC : cuL9 A sg nm (n + 2)) (hC' : cuL9 (rmv (rmv (rmv (rmv A r0) r0') r1) r1') sg nm n) (hB : bL9 p A sg nm (n + 2) k d r9 b) : bL9 p (rmv (rmv (rmv (rmv A r0) r0') r1) r1') sg nm n (k + 1) (d - 1) r9 b := by
  have u2 : ∀ p, p ∈ A.flatten → p.2 < 2 := fun p hp => (hb.2.1 p hp).2
  obtain ⟨x1, ⟨x2, x3⟩, ⟨x4, x5⟩, ⟨x6, x7⟩, x8, x9⟩ := bg_six hb h
  obtain ⟨⟨i0, i0'⟩, i1, i1'⟩ := bg_in hb h
  obtain ⟨p0, p1⟩ := bg_pr hb h
  obtain ⟨z0, z0', z1, z1', n0, n1, k0, k0', -⟩ := bg_kd h
  have en := fun {y : Nat} (hy : y < n) => bg_end hb hO h hy (show 0 < 2 by omega)
  obtain ⟨Q1, Q2, hq, q3, q4⟩ : ∃ Q1 Q2 : Nat → Nat, (∀ x, x < n + 2 → flp9 (fun y => gV9 (nm y, 0)) (fun y => gV9 (prA9 A (nm y, 0))) (fun y => gV9 (prA9 A (nm y, 0))) Q1 Q2 Q2 x) ∧ (∀ y, y < n → Q1 y = gV9 (nm y, 0) ∧ Q2 y = gV9 (prA9 A (nm y, 0))) ∧ ∀ y, n ≤ y → y < n + 2 → Q1 y = gV9 r0 ∧ (Q2 y = gV9 (prA9 A r0) ∨ Q2 y = gV9 r0') := by
    refine ⟨fun y => if y < n then gV9 (nm y, 0) else gV9 r0, fun y => if y < n then gV9 (prA9 A (nm y, 0)) else if r0 = (nm y, 0) then gV9 (prA9 A r0) else gV9 r0', fun x hx => ?_, fun y hy => ⟨if_pos hy, if_pos hy⟩, fun y y1 y2 => ⟨if_neg (by omega), ?_⟩⟩
    · unfold flp9
      simp only []
      by_cases c : x < n
      · left
        rw [if_pos c, if_pos c]
        exact ⟨rfl, rfl, rfl⟩
      · rw [if_neg c, if_neg c]
        by_cases c2 : r0 = (nm x, 0)
        · left
          rw [if_pos c2, ← c2]
          exact ⟨rfl, rfl, rfl⟩
        · right
          rw [if_neg c2]
          have e : r0' = (nm x, 0) := by
            rcases (show x = n ∨ x = n + 1 by omega) with e | e
            · rw [e] at c2 ⊢
              rcases h.2.2.2.1 with ⟨f1, f2⟩ | ⟨f1, f2⟩
              · exact absurd f1 c2
              · exact f2
            · rw [e] at c2 ⊢
              rcases h.2.2.2.1 with ⟨f1, f2⟩ | ⟨f1, f2⟩
              · exact f2
              · exact absurd f1 c2
          rw [← e, p0]
          first | exact ⟨trivial, rfl, rfl, rfl⟩ | exact ⟨trivial, trivial, trivial, trivial⟩ | exact ⟨trivial, rfl, rfl⟩
    · show (if y < n then gV9 (prA9 A (nm y, 0)) else if r0 = (nm y, 0) then gV9 (prA9 A r0) else gV9 r0') = _ ∨ (if y < n then gV9 (prA9 A (nm y, 0)) else if r0 = (nm y, 0) then gV9 (prA9 A r0) else gV9 r0') = _
      rw [if_neg (by omega)]
      by_cases c2 : r0 = (nm y, 0)
      · rw [if_pos c2]
        exact Or.inl rfl
      · rw [if_neg c2]
        exact Or.inr rfl
  have hCq := flp_cu hq hC
  have hBq := be_flp hq hC hB
  have hPq : ∀ x, x < n + 2 → Q1 x ≠ gV9 r1 ∧ Q2 x ≠ gV9 r1 ∧ Q2 x ≠ gV9 r1 := fun x hx => by
    by_cases c : x < n
    · obtain ⟨e1, e2⟩ := q3 x c
      rw [e1, e2]
      exact ⟨(en c).2.2.1.2, (en c).2.2.2.2, (en c).2.2.2.2⟩
    · obtain ⟨e1, e2⟩ := q4 x (by omega) hx
      rw [e1]
      rcases e2 with e2 | e2 <;> rw [e2]
      · exact ⟨x1, x3, x3⟩
      · exact ⟨x1, x5, x5⟩
  have hPo : ∀ x, x < n → Q1 x ≠ gV9 r0 ∧ Q2 x ≠ gV9 r0 ∧ Q2 x ≠ gV9 r0 := fun x c => by
    obtain ⟨e1, e2⟩ := q3 x c
    rw [e1, e2]
    exact ⟨(en c).2.2.1.1, (en c).2.2.2.1, (en c).2.2.2.1⟩
  have hC1 := cu_dp (o := gV9 r1) hCq hPq
  have x0 : (nm n, 0) ∈ A.flatten := (hO.1 n (by omega)).1
  have hB1 := be_ph hp hi hCq hC1 (ph_dp hCq.1.1 (fun s _ => by
    obtain ⟨a, a1, a2⟩ := bg_g1 (sg := sg) hb h (s n)
    have E := lst_e (jp9 A sg nm (n + 2) s)
    refine ⟨a, ?_, ?_, E.2.1 _ _ (lst_i ⟨n, by omega, a2⟩)⟩
    · rcases a1 with e | e <;> rw [e]
      · exact Or.inl ⟨_, x0, rfl⟩
      · exact Or.inl ⟨_, prA_in hb.1 x0, rfl⟩
    · rcases a1 with e | e <;> rw [e]
      · exact fun h9 => by
          have := congrArg Prod.snd (gA_inj (u2 _ x0) (u2 _ i1) h9)
          simp only [] at this
          omega
      · exact fun h9 => by
          have := congrArg Prod.snd ((bg_bf hb h x0).2 h9)
          simp only [] at this
          omega)) hBq
  have al : ∀ s : Nat → Bool, s n = true → s (n + 1) = false → ∀ g, rdp9 (gV9 r1) (relL9 A sg nm (n + 2)) s (gV9 r0) g → g = gV9 r0 := fun s s1 s2 g hg => by
    rcases hg with e | ⟨-, e2, e3⟩
    · exact e.symm
    · exact (bg_al hb hO h hs s1 s2 g e3).elim id (fun e => absurd e e2)
  have kA : knW (n + 1) (gV9 r0) (fun s => s n = true) Q1 Q2 Q2 (rdp9 (gV9 r1) (relL9 A sg nm (n + 2))) := by
    refine ⟨fun s w hs9 => al s w hs9, (q4 (n + 1) (by omega) (by omega)).1, ?_, fun y s hy w sy => hPo y ?_, fun s y w => ?_, fun s w => ?_⟩
    · rcases (q4 (n + 1) (by omega) (by omega)).2 with e | e <;> rw [e]
      · exact x2
      · exact x4
    · rcases Nat.lt_or_ge y n with c | c
      · exact c
      · rw [show y = n by omega, w] at sy
        cases sy
    · show on9 s y n = true
      by_cases c : n = y
      · rw [c]
        exact on_x
      · rw [on_o c]
        exact w
    · show off9 s (n + 1) n = true
      rw [off_o (by omega)]
      exact w
  have kB : knB n (gV9 r0) (fun s => s (n + 1) = false) Q1 Q2 Q2 (rdp9 (gV9 r1) (relL9 A sg nm (n + 2))) := by
    refine ⟨fun s w hs9 => al s hs9 w, (q4 n (by omega) (by omega)).1, fun y s hy w sy => hPo y hy, fun s y hy w => ?_, fun s w => ?_⟩
    · show on9 s y (n + 1) = false
      rw [on_o (by omega)]
      exact w
    · show off9 s n (n + 1) = false
      rw [off_o (by omega)]
      exact w
  obtain ⟨c1, c2⟩ := r2T hp hi hk hC1 ⟨Or.inl ⟨r0, i0, rfl⟩, x1⟩ kA kB hB1
  have C := ph_cmp (fun s => rdp_e (rel := relL9 A sg nm (n + 2)) (s := on9 s (n + 1)) (lst_e _)) (bg_pa hb hO h hs q3) (bg_pb (sg := sg) hb hO h) (fun x hx => ?_) (fun x hx => ?_)
  · exact be_ph hp hi c1 hC' C c2
  · have q1 : gX9 A [(r0, r0'), (r1, r1')] (gV9 (nm x, 0)) := Or.inl ⟨_, (en hx).1, fun z hz => by
      rcases List.mem_cons.mp hz with e | e
      · rw [e]
        exact (en hx).2.1.1
      · rw [List.mem_singleton.mp e]
        exact (en hx).2.1.2.2.1, rfl⟩
    have q2 : gX9 A [(r0, r0'), (r1, r1')] (gV9 (prA9 A (nm x, 0))) := Or.inl ⟨_, prA_in hb.1 (en hx).1, fun z hz => by
      rcases List.mem_cons.mp hz with e | e
      · rw [e]
        exact fun h9 => (en hx).2.2.2.1 (congrArg gV9 h9)
      · rw [List.mem_singleton.mp e]
        exact fun h9 => (en hx).2.2.2.2 (congrArg gV9 h9), rfl⟩
    exact ⟨q1, q2, q2⟩
  · exact hC'.2.2.2 x hx
end XCHY
end
