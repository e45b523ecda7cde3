-- CHAIN: D of a generator, by numbers
/-- the loops that stay -/
noncomputable def K9 (G : Nat → Prop) (Ls : Nat → Nat → Nat) (ns : Nat → Nat) (P1 P2 : Nat → Nat) (s m x : Nat) : Nat := (nb_ex (ns (s + 2 ^ x)) (fun l => dcb (l < ns (s + 2 ^ x) ∧ l ≠ Ls (s + 2 ^ x) (P1 x) ∧ l ≠ Ls (s + 2 ^ x) (P2 x) ∧ ∃ g, G g ∧ Ls (s + 2 ^ x) g = l ∧ btN m (Ls s g) = 1)) (fun y hy => dcb_f.mpr (fun h => by omega))).choose
/-- what comes of one crossing -/
noncomputable def di9 (G : Nat → Prop) (Ls : Nat → Nat → Nat) (ns : Nat → Nat) (P1 P2 : Nat → Nat) (s m x : Nat) : List Nat :=
  if Ls s (P1 x) = Ls s (P2 x) then (if btN m (Ls s (P1 x)) = 0 then [K9 G Ls ns P1 P2 s m x] else [K9 G Ls ns P1 P2 s m x + 2 ^ Ls (s + 2 ^ x) (P2 x), K9 G Ls ns P1 P2 s m x + 2 ^ Ls (s + 2 ^ x) (P1 x)])
  else (if btN m (Ls s (P1 x)) = 0 ∧ btN m (Ls s (P2 x)) = 0 then [] else if btN m (Ls s (P1 x)) = 0 ∨ btN m (Ls s (P2 x)) = 0 then [K9 G Ls ns P1 P2 s m x] else [K9 G Ls ns P1 P2 s m x + 2 ^ Ls (s + 2 ^ x) (P1 x)])
section XCI7
variable {c V k r : Nat} {G : Nat → Prop} {P1 P2 : Nat → Nat} {rel : (Nat → Bool) → Nat → Nat → Prop} {Ls : Nat → Nat → Nat} {ns : Nat → Nat} {dg : Int} {s m x : Nat}
theorem K_sp : K9 G Ls ns P1 P2 s m x < 2 ^ ns (s + 2 ^ x) ∧ ∀ l, tb (K9 G Ls ns P1 P2 s m x) l = dcb (l < ns (s + 2 ^ x) ∧ l ≠ Ls (s + 2 ^ x) (P1 x) ∧ l ≠ Ls (s + 2 ^ x) (P2 x) ∧ ∃ g, G g ∧ Ls (s + 2 ^ x) g = l ∧ btN m (Ls s g) = 1) := (nb_ex (ns (s + 2 ^ x)) (fun l => dcb (l < ns (s + 2 ^ x) ∧ l ≠ Ls (s + 2 ^ x) (P1 x) ∧ l ≠ Ls (s + 2 ^ x) (P2 x) ∧ ∃ g, G g ∧ Ls (s + 2 ^ x) g = l ∧ btN m (Ls s g) = 1)) (fun y hy => dcb_f.mpr (fun h => by omega))).choose_spec
theorem bt_0 (m y : Nat) : btN m y = 0 ↔ tb m y = false := by
  rw [tb_b]
  rcases bt_01 m y with e | e <;> rw [e] <;> simp
theorem on_tb (h : btN s x = 0) : on9 (tb s) x = tb (s + 2 ^ x) := funext (fun k => (tb_flip h k).symm)
/-- what a turn does to the loops -/
theorem tn_lp (hC : cu9 c V G P1 P2 P2 rel) (hx : x < c) (hb : btN s x = 0) : (∀ g, (rel (tb s) g (P1 x) ∨ rel (tb s) g (P2 x)) ↔ (rel (tb (s + 2 ^ x)) g (P1 x) ∨ rel (tb (s + 2 ^ x)) g (P2 x))) ∧ (∀ g g', ¬ (rel (tb (s + 2 ^ x)) g (P1 x) ∨ rel (tb (s + 2 ^ x)) g (P2 x)) → (rel (tb s) g g' ↔ rel (tb (s + 2 ^ x)) g g')) ∧ (¬ rel (tb s) (P1 x) (P2 x) → rel (tb (s + 2 ^ x)) (P1 x) (P2 x)) ∧ (rel (tb s) (P1 x) (P2 x) → ¬ rel (tb (s + 2 ^ x)) (P1 x) (P2 x)) := by
  have E := hC.1.1
  have s0 : tb s x = false := (bt_0 s x).mp hb
  have h := hC.1.2 (tb s) x hx s0
  rw [on_tb hb] at h
  have gen : ∀ (R Q : Nat → Nat → Prop) (a b : Nat), eqv9 R → eqv9 Q → (∀ g h, Q g h ↔ adr R a b g h) → (∀ g, (R g a ∨ R g b) ↔ (Q g a ∨ Q g b)) ∧ (∀ g g', ¬ (R g a ∨ R g b) → (R g g' ↔ Q g g')) ∧ Q a b := fun R Q a b hR hQ hq => by
    refine ⟨fun g => ⟨fun h9 => h9.imp (fun e => (hq _ _).mpr (Or.inl e)) (fun e => (hq _ _).mpr (Or.inl e)), fun h9 => ?_⟩, fun g g' hn => ⟨fun e => (hq _ _).mpr (Or.inl e), fun e => ?_⟩, (hq _ _).mpr (adr_ab hR)⟩
    · rcases h9 with h9 | h9
      · rcases (hq _ _).mp h9 with e | ⟨e, -⟩ | ⟨e, -⟩
        · exact Or.inl e
        · exact Or.inl e
        · exact Or.inr e
      · rcases (hq _ _).mp h9 with e | ⟨e, -⟩ | ⟨e, -⟩
        · exact Or.inr e
        · exact Or.inl e
        · exact Or.inr e
    · rcases (hq _ _).mp e with e | ⟨e, -⟩ | ⟨e, -⟩
      · exact e
      · exact absurd (Or.inl e) hn
      · exact absurd (Or.inr e) hn
  rcases h with ⟨a, b⟩ | ⟨a, b, e⟩
  · obtain ⟨h1, h2, h3⟩ := gen _ _ _ _ (E (tb s)) (E (tb (s + 2 ^ x))) b
    exact ⟨h1, fun g g' hn => h2 g g' (fun h9 => hn ((h1 g).mp h9)), fun _ => h3, fun h9 => absurd h9 a⟩
  · obtain ⟨h1, h2, h3⟩ := gen _ _ _ _ (E (tb (s + 2 ^ x))) (E (tb s)) e
    exact ⟨fun g => (h1 g).symm, fun g g' hn => (h2 g g' hn).symm, fun h9 => absurd a h9, fun _ => b⟩
theorem s2_lt (hs : s < 2 ^ c) (hx : x < c) (hb : btN s x = 0) : s + 2 ^ x < 2 ^ c := add_lt hs hx hb
/-- the marks of a loop that stays -/
theorem K_bt (hC : cu9 c V G P1 P2 P2 rel) (hL : LT9 c G rel Ls ns) (hs : s < 2 ^ c) (hx : x < c) (hb : btN s x = 0) {g : Nat} (hg : G g) : (Ls (s + 2 ^ x) g = Ls (s + 2 ^ x) (P1 x) ∨ Ls (s + 2 ^ x) g = Ls (s + 2 ^ x) (P2 x) → btN (K9 G Ls ns P1 P2 s m x) (Ls (s + 2 ^ x) g) = 0) ∧ (¬ (Ls (s + 2 ^ x) g = Ls (s + 2 ^ x) (P1 x) ∨ Ls (s + 2 ^ x) g = Ls (s + 2 ^ x) (P2 x)) → btN (K9 G Ls ns P1 P2 s m x) (Ls (s + 2 ^ x) g) = btN m (Ls s g)) := by
  have ht := s2_lt hs hx hb
  obtain ⟨l1, l2, l3, -⟩ := hL s hs
  obtain ⟨t1, t2, t3, -⟩ := hL _ ht
  obtain ⟨q1, q2, -⟩ := hC.2.2.2 x hx
  obtain ⟨a1, a2, -⟩ := tn_lp hC hx hb
  have sp := (K_sp (G := G) (Ls := Ls) (ns := ns) (P1 := P1) (P2 := P2) (s := s) (m := m) (x := x)).2 (Ls (s + 2 ^ x) g)
  constructor
  · intro h
    rw [bt_0, sp]
    exact dcb_f.mpr (fun h9 => h.elim h9.2.1 h9.2.2.1)
  · intro h
    have hn : ¬ (rel (tb (s + 2 ^ x)) g (P1 x) ∨ rel (tb (s + 2 ^ x)) g (P2 x)) := fun h9 => h (h9.imp (fun e => (t3 _ _ hg q1).mpr e) (fun e => (t3 _ _ hg q2).mpr e))
    have key : ∀ g', G g' → Ls (s + 2 ^ x) g' = Ls (s + 2 ^ x) g → Ls s g' = Ls s g := fun g' hg' e => ((l3 _ _ hg hg').mpr ((a2 g g' hn).mpr ((t3 _ _ hg hg').mp e.symm))).symm
    rcases bt_01 m (Ls s g) with e | e
    · rw [e, bt_0, sp]
      refine dcb_f.mpr (fun h9 => ?_)
      obtain ⟨-, -, -, g', g1, g2, g3⟩ := h9
      rw [key g' g1 g2, e] at g3
      omega
    · rw [e]
      have : tb (K9 G Ls ns P1 P2 s m x) (Ls (s + 2 ^ x) g) = true := by
        rw [sp]
        exact dcb_t.mpr ⟨t1 g hg, fun e9 => h (Or.inl e9), fun e9 => h (Or.inr e9), g, hg, rfl, e⟩
      rw [tb_b] at this
      exact of_decide_eq_true this
theorem K_0 (hL : LT9 c G rel Ls ns) : btN (K9 G Ls ns P1 P2 s m x) (Ls (s + 2 ^ x) (P1 x)) = 0 ∧ btN (K9 G Ls ns P1 P2 s m x) (Ls (s + 2 ^ x) (P2 x)) = 0 := by
  have sp := (K_sp (G := G) (Ls := Ls) (ns := ns) (P1 := P1) (P2 := P2) (s := s) (m := m) (x := x)).2
  exact ⟨by rw [bt_0, sp]; exact dcb_f.mpr (fun h9 => h9.2.1 rfl), by rw [bt_0, sp]; exact dcb_f.mpr (fun h9 => h9.2.2.1 rfl)⟩
theorem di_lt (hC : cu9 c V G P1 P2 P2 rel) (hL : LT9 c G rel Ls ns) (hs : s < 2 ^ c) (hx : x < c) (hb : btN s x = 0) {m' : Nat} (h : m' ∈ di9 G Ls ns P1 P2 s m x) : m' < 2 ^ ns (s + 2 ^ x) := by
  have ht := s2_lt hs hx hb
  obtain ⟨t1, -⟩ := hL _ ht
  obtain ⟨q1, q2, -⟩ := hC.2.2.2 x hx
  have sp := (K_sp (G := G) (Ls := Ls) (ns := ns) (P1 := P1) (P2 := P2) (s := s) (m := m) (x := x)).1
  obtain ⟨k1, k2⟩ := K_0 (m := m) (s := s) (x := x) (P1 := P1) (P2 := P2) hL
  have b1 := add_lt sp (t1 _ q1) k1
  have b2 := add_lt sp (t1 _ q2) k2
  unfold di9 at h
  split at h
  · split at h
    · rw [List.mem_singleton.mp h]
      exact sp
    · rcases List.mem_cons.mp h with e | e
      · rw [e]
        exact b2
      · rw [List.mem_singleton.mp e]
        exact b1
  · split at h
    · exact absurd h List.not_mem_nil
    · split at h
      · rw [List.mem_singleton.mp h]
        exact sp
      · rw [List.mem_singleton.mp h]
        exact b1
/-- D at one crossing -/
theorem Dx_ge (hC : cu9 c V G P1 P2 P2 rel) (hL : LT9 c G rel Ls ns) (hs : s < 2 ^ c) (hx : x < c) (hb : btN s x = 0) : Dx9 P1 P2 P2 rel x (ge9 G Ls s m) = (di9 G Ls ns P1 P2 s m x).map (fun m' => ((1 : Int), ge9 G Ls (s + 2 ^ x) m')) := by
  have ht := s2_lt hs hx hb
  obtain ⟨l1, l2, l3, -⟩ := hL s hs
  obtain ⟨t1, t2, t3, -⟩ := hL _ ht
  obtain ⟨q1, q2, -⟩ := hC.2.2.2 x hx
  obtain ⟨a1, a2, a3, a4⟩ := tn_lp hC hx hb
  obtain ⟨k1, k2⟩ := K_0 (m := m) (s := s) (x := x) (P1 := P1) (P2 := P2) hL
  have sp := (K_sp (G := G) (Ls := Ls) (ns := ns) (P1 := P1) (P2 := P2) (s := s) (m := m) (x := x)).1
  have mk : ∀ g, G g → (ge9 G Ls s m).2 g = decide (btN m (Ls s g) = 0) := fun g hg => by
    show (dcb (G g) && _) = _
    rw [dcb_t.mpr hg, Bool.true_and]
  have mt' : ∀ m' g, G g → (ge9 G Ls (s + 2 ^ x) m').2 g = decide (btN m' (Ls (s + 2 ^ x) g) = 0) := fun m' g hg => by
    show (dcb (G g) && _) = _
    rw [dcb_t.mpr hg, Bool.true_and]
  have out : ∀ g, ¬ G g → (ge9 G Ls s m).2 g = false ∧ (∀ m', (ge9 G Ls (s + 2 ^ x) m').2 g = false) ∧ dcb (rel (tb (s + 2 ^ x)) g (P1 x)) = false ∧ dcb (rel (tb (s + 2 ^ x)) g (P2 x)) = false := fun g hg => by
    have hz := fun y hy => tb_hi (y := y) ht hy
    refine ⟨by show (dcb (G g) && _) = _; rw [dcb_f.mpr hg]; rfl, fun m' => by show (dcb (G g) && _) = _; rw [dcb_f.mpr hg]; rfl, dcb_f.mpr (fun h9 => ?_), dcb_f.mpr (fun h9 => ?_)⟩
    · by_cases e : g = P1 x
      · exact hg (by rw [e]; exact q1)
      · exact hg (hC.2.1 _ hz g _ h9 e).1
    · by_cases e : g = P2 x
      · exact hg (by rw [e]; exact q2)
      · exact hg (hC.2.1 _ hz g _ h9 e).1
  have r1 : ∀ g, G g → dcb (rel (tb (s + 2 ^ x)) g (P1 x)) = decide (Ls (s + 2 ^ x) g = Ls (s + 2 ^ x) (P1 x)) := fun g hg => by
    by_cases e : Ls (s + 2 ^ x) g = Ls (s + 2 ^ x) (P1 x)
    · rw [decide_eq_true e]
      exact dcb_t.mpr ((t3 _ _ hg q1).mp e)
    · rw [decide_eq_false e]
      exact dcb_f.mpr (fun h9 => e ((t3 _ _ hg q1).mpr h9))
  have r2 : ∀ g, G g → dcb (rel (tb (s + 2 ^ x)) g (P2 x)) = decide (Ls (s + 2 ^ x) g = Ls (s + 2 ^ x) (P2 x)) := fun g hg => by
    by_cases e : Ls (s + 2 ^ x) g = Ls (s + 2 ^ x) (P2 x)
    · rw [decide_eq_true e]
      exact dcb_t.mpr ((t3 _ _ hg q2).mp e)
    · rw [decide_eq_false e]
      exact dcb_f.mpr (fun h9 => e ((t3 _ _ hg q2).mpr h9))
  -- a gap at the crossing lies in one of its loops, before and behind
  have at' : ∀ g, G g → ((Ls (s + 2 ^ x) g = Ls (s + 2 ^ x) (P1 x) ∨ Ls (s + 2 ^ x) g = Ls (s + 2 ^ x) (P2 x)) ↔ (Ls s g = Ls s (P1 x) ∨ Ls s g = Ls s (P2 x))) := fun g hg => by
    rw [l3 _ _ hg q1, l3 _ _ hg q2, t3 _ _ hg q1, t3 _ _ hg q2]
    exact (a1 g).symm
  have kb := fun g hg => K_bt (m := m) hC hL hs hx hb (g := g) hg
  have bit : ∀ l, l < ns (s + 2 ^ x) → btN (K9 G Ls ns P1 P2 s m x) l = 0 → ∀ j, btN (K9 G Ls ns P1 P2 s m x + 2 ^ l) j = if j = l then 1 else btN (K9 G Ls ns P1 P2 s m x) j := fun l _ h0 j => bt_flip h0 j
  have fst : on9 (ge9 G Ls s m).1 x = tb (s + 2 ^ x) := on_tb hb
  have es : rel (ge9 G Ls s m).1 (P1 x) (P2 x) ↔ Ls s (P1 x) = Ls s (P2 x) := (l3 _ _ q1 q2).symm
  unfold Dx9 di9
  rw [fst]
  by_cases c1 : Ls s (P1 x) = Ls s (P2 x)
  · rw [if_pos (dcb_t.mpr (es.mpr c1)), if_pos c1, mk _ q1]
    have ne : Ls (s + 2 ^ x) (P1 x) ≠ Ls (s + 2 ^ x) (P2 x) := fun h9 => a4 (es.mpr c1) ((t3 _ _ q1 q2).mp h9)
    by_cases c2 : btN m (Ls s (P1 x)) = 0
    · rw [if_pos (decide_eq_true c2), if_pos c2]
      refine congrArg (fun q => [((1 : Int), q)]) (Prod.ext rfl (funext (fun g => ?_)))
      show (ge9 G Ls s m).2 g = (ge9 G Ls (s + 2 ^ x) (K9 G Ls ns P1 P2 s m x)).2 g
      by_cases hg : G g
      · rw [mk g hg, mt' _ g hg]
        by_cases c3 : Ls (s + 2 ^ x) g = Ls (s + 2 ^ x) (P1 x) ∨ Ls (s + 2 ^ x) g = Ls (s + 2 ^ x) (P2 x)
        · rw [(kb g hg).1 c3]
          have : Ls s g = Ls s (P1 x) := ((at' g hg).mp c3).elim id (fun e => e.trans c1.symm)
          rw [this, c2]
        · rw [(kb g hg).2 c3]
      · rw [(out g hg).1, (out g hg).2.1]
    · rw [if_neg (fun h9 => c2 (of_decide_eq_true h9)), if_neg c2]
      have tw : ∀ (a b : Nat) (Pa : Nat), a ≠ b → btN (K9 G Ls ns P1 P2 s m x) b = 0 → b < ns (s + 2 ^ x) → ((a = Ls (s + 2 ^ x) (P1 x) ∧ b = Ls (s + 2 ^ x) (P2 x)) ∨ (a = Ls (s + 2 ^ x) (P2 x) ∧ b = Ls (s + 2 ^ x) (P1 x))) → (∀ g, G g → dcb (rel (tb (s + 2 ^ x)) g Pa) = decide (Ls (s + 2 ^ x) g = a)) → (∀ g, ¬ G g → dcb (rel (tb (s + 2 ^ x)) g Pa) = false) → (fun g => (ge9 G Ls s m).2 g || dcb (rel (tb (s + 2 ^ x)) g Pa)) = (ge9 G Ls (s + 2 ^ x) (K9 G Ls ns P1 P2 s m x + 2 ^ b)).2 := fun a b Pa hab hb0 hbl hw hP hO => funext (fun g => by
        by_cases hg : G g
        · rw [mk g hg, mt' _ g hg, hP g hg, bit b hbl hb0]
          by_cases c3 : Ls (s + 2 ^ x) g = Ls (s + 2 ^ x) (P1 x) ∨ Ls (s + 2 ^ x) g = Ls (s + 2 ^ x) (P2 x)
          · have q : Ls s g = Ls s (P1 x) := ((at' g hg).mp c3).elim id (fun e => e.trans c1.symm)
            rw [q, decide_eq_false c2, Bool.false_or]
            have c4 : Ls (s + 2 ^ x) g = a ∨ Ls (s + 2 ^ x) g = b := by
              rcases hw with ⟨w1, w2⟩ | ⟨w1, w2⟩
              · rw [w1, w2]
                exact c3
              · rw [w1, w2]
                exact c3.symm
            rcases c4 with e | e
            · rw [if_neg (by rw [e]; exact hab), (kb g hg).1 c3, decide_eq_true e]
              rfl
            · rw [if_pos e, e, decide_eq_false (fun h9 => hab h9.symm)]
              rfl
          · have n1 : Ls (s + 2 ^ x) g ≠ a := fun h9 => c3 (hw.elim (fun w => Or.inl (h9.trans w.1)) (fun w => Or.inr (h9.trans w.1)))
            have n2 : Ls (s + 2 ^ x) g ≠ b := fun h9 => c3 (hw.elim (fun w => Or.inr (h9.trans w.2)) (fun w => Or.inl (h9.trans w.2)))
            rw [if_neg n2, (kb g hg).2 c3, decide_eq_false n1, Bool.or_false]
        · rw [(out g hg).1, (out g hg).2.1, hO g hg]
          rfl)
      have e1 := tw _ _ (P1 x) ne k2 (t1 _ q2) (Or.inl ⟨rfl, rfl⟩) r1 (fun g hg => (out g hg).2.2.1)
      have e2 := tw _ _ (P2 x) ne.symm k1 (t1 _ q1) (Or.inr ⟨rfl, rfl⟩) r2 (fun g hg => (out g hg).2.2.2)
      show [((1 : Int), ((tb (s + 2 ^ x), fun g => (ge9 G Ls s m).2 g || dcb (rel (tb (s + 2 ^ x)) g (P1 x))) : gn9)), ((1 : Int), ((tb (s + 2 ^ x), fun g => (ge9 G Ls s m).2 g || dcb (rel (tb (s + 2 ^ x)) g (P2 x))) : gn9))] = _
      rw [e1, e2]
      rfl
  · rw [if_neg (fun h9 => c1 (es.mp (dcb_t.mp h9))), if_neg c1, mk _ q1, mk _ q2]
    have eq : Ls (s + 2 ^ x) (P1 x) = Ls (s + 2 ^ x) (P2 x) := (t3 _ _ q1 q2).mpr (a3 (fun h9 => c1 (es.mp h9)))
    by_cases c2 : btN m (Ls s (P1 x)) = 0 ∧ btN m (Ls s (P2 x)) = 0
    · rw [if_pos ⟨decide_eq_true c2.1, decide_eq_true c2.2⟩, if_pos c2]
      rfl
    · rw [if_neg (fun h9 => c2 ⟨of_decide_eq_true h9.1, of_decide_eq_true h9.2⟩), if_neg c2]
      by_cases c4 : btN m (Ls s (P1 x)) = 0 ∨ btN m (Ls s (P2 x)) = 0
      · rw [if_pos c4]
        have o : (decide (btN m (Ls s (P1 x)) = 0) || decide (btN m (Ls s (P2 x)) = 0)) = true := by
          rw [Bool.or_eq_true, decide_eq_true_iff, decide_eq_true_iff]
          exact c4
        refine congrArg (fun q => [((1 : Int), q)]) (Prod.ext rfl (funext (fun g => ?_)))
        show ((ge9 G Ls s m).2 g || ((decide (btN m (Ls s (P1 x)) = 0) || decide (btN m (Ls s (P2 x)) = 0)) && dcb (rel (tb (s + 2 ^ x)) g (P1 x)))) = (ge9 G Ls (s + 2 ^ x) (K9 G Ls ns P1 P2 s m x)).2 g
        rw [o, Bool.true_and]
        by_cases hg : G g
        · rw [mk g hg, mt' _ g hg, r1 g hg]
          by_cases c3 : Ls (s + 2 ^ x) g = Ls (s + 2 ^ x) (P1 x)
          · rw [(kb g hg).1 (Or.inl c3), decide_eq_true c3, Bool.or_true]
            rfl
          · rw [(kb g hg).2 (fun h9 => c3 (h9.elim id (fun e => e.trans eq.symm))), decide_eq_false c3, Bool.or_false]
        · rw [(out g hg).1, (out g hg).2.1, (out g hg).2.2.1]
          rfl
      · rw [if_neg c4]
        have o : (decide (btN m (Ls s (P1 x)) = 0) || decide (btN m (Ls s (P2 x)) = 0)) = false := by
          rw [Bool.or_eq_false_iff, decide_eq_false_iff_not, decide_eq_false_iff_not]
          exact ⟨fun h9 => c4 (Or.inl h9), fun h9 => c4 (Or.inr h9)⟩
        refine congrArg (fun q => [((1 : Int), q)]) (Prod.ext rfl (funext (fun g => ?_)))
        show ((ge9 G Ls s m).2 g || ((decide (btN m (Ls s (P1 x)) = 0) || decide (btN m (Ls s (P2 x)) = 0)) && dcb (rel (tb (s + 2 ^ x)) g (P1 x)))) = (ge9 G Ls (s + 2 ^ x) (K9 G Ls ns P1 P2 s m x + 2 ^ Ls (s + 2 ^ x) (P1 x))).2 g
        rw [o, Bool.false_and, Bool.or_false]
        by_cases hg : G g
        · rw [mk g hg, mt' _ g hg, bit _ (t1 _ q1) k1]
          by_cases c3 : Ls (s + 2 ^ x) g = Ls (s + 2 ^ x) (P1 x)
          · rw [if_pos c3]
            rcases (at' g hg).mp (Or.inl c3) with e | e
            · rw [e, decide_eq_false (fun h9 => c4 (Or.inl h9))]
              rfl
            · rw [e, decide_eq_false (fun h9 => c4 (Or.inr h9))]
              rfl
          · rw [if_neg c3, (kb g hg).2 (fun h9 => c3 (h9.elim id (fun e => e.trans eq.symm)))]
        · rw [(out g hg).1, (out g hg).2.1]
end XCI7
