-- CHAIN: crossings exchanged; the other end first; a loop that goes (type A), in some states only
def rlk9 (n : Nat) (α β : Nat → Nat) : Prop := ∀ (V k r : Nat) (G : Nat → Prop) (P1 P2 P3 : Nat → Nat) (rel : (Nat → Bool) → Nat → Nat → Prop) (d p b : Int), pr9 p → iv9 p → cu9 n V G P1 P2 P3 rel → be9 p (Sg9 n V G rel k d) (D9 P1 P2 P3 rel n) r b → cu9 n V G (fun y => P1 (β y)) (fun y => P2 (β y)) (fun y => P3 (β y)) (fun s => rel (fun z => s (α z))) ∧ be9 p (Sg9 n V G (fun s => rel (fun z => s (α z))) k d) (D9 (fun y => P1 (β y)) (fun y => P2 (β y)) (fun y => P3 (β y)) (fun s => rel (fun z => s (α z))) n) r b
theorem rl_tau {n x : Nat} (hx : x + 1 < n) : rlk9 n (tau9 x) (tau9 x) := fun V k r G P1 P2 P3 rel d p b hp hi hC hb => ⟨tau_cu hx hC, be_tau hp hi hx hC hb⟩
theorem rl_cmp {n : Nat} {α β α' β' : Nat → Nat} (h1 : rlk9 n α β) (h2 : rlk9 n α' β') : rlk9 n (fun z => α' (α z)) (fun y => β (β' y)) := fun V k r G P1 P2 P3 rel d p b hp hi hC hb => by
  obtain ⟨a1, a2⟩ := h1 V k r G P1 P2 P3 rel d p b hp hi hC hb
  exact h2 V k r G _ _ _ _ d p b hp hi a1 a2
theorem rl_swp {n x : Nat} : ∀ j, x + j + 1 < n → rlk9 n (swp9 x (x + j + 1)) (swp9 x (x + j + 1))
  | 0, h => by
    have e : swp9 x (x + 0 + 1) = tau9 x := rfl
    rw [e]
    exact rl_tau h
  | j + 1, h => by
    have e : swp9 x (x + (j + 1) + 1) = fun z => tau9 (x + j + 1) (swp9 x (x + j + 1) (tau9 (x + j + 1) z)) := funext (fun z => by
      unfold swp9 tau9
      repeat' split
      all_goals omega)
    rw [e]
    have t := rl_tau (n := n) (x := x + j + 1) h
    have u := rl_swp (n := n) (x := x) j (by omega)
    have v := rl_cmp t u
    exact rl_cmp (α := fun z => swp9 x (x + j + 1) (tau9 (x + j + 1) z)) (β := fun y => tau9 (x + j + 1) (swp9 x (x + j + 1) y)) (α' := tau9 (x + j + 1)) (β' := tau9 (x + j + 1)) v t
theorem rl_sw {n x m : Nat} (h1 : x < m) (h2 : m < n) : rlk9 n (swp9 x m) (swp9 x m) := by
  have := rl_swp (n := n) (x := x) (m - x - 1) (by omega)
  rw [show x + (m - x - 1) + 1 = m by omega] at this
  exact this
section XCHL
variable {p b : Int} {S : Nat → gn9 → Prop} {D D' : gn9 → fc9}
theorem rwl_cg {d d' : Nat → vc9} : ∀ {n : Nat}, (∀ i, i < n → d i = d' i) → rwl9 d n = rwl9 d' n
  | 0, _ => rfl
  | n + 1, h => by
    show d n :: rwl9 d n = d' n :: rwl9 d' n
    rw [h n (by omega), rwl_cg (fun i hi => h i (by omega))]
theorem be_cg {r : Nat} (h : ∀ r γ, S r γ → eq9 (D γ) (D' γ)) (hb : be9 p S D r b) : be9 p S D' r b := by
  obtain ⟨E, N, he, hN⟩ := hb
  refine ⟨E, N, he, ?_⟩
  have e : ∀ r, rn9 p E N D' r = rn9 p E N D r := fun r => by
    unfold rn9
    rw [rwl_cg (d := mtx9 D' (E r) (E (r + 1))) (d' := mtx9 D (E r) (E (r + 1))) (fun i hi => funext (fun j => (h r _ (en_at (he r) hi) _).symm))]
  rw [e, e]
  exact hN
end XCHL
/-- the same ends, or the other end first -/
def flp9 (P1 P2 P3 P1' P2' P3' : Nat → Nat) (x : Nat) : Prop := (P1' x = P1 x ∧ P2' x = P2 x ∧ P3' x = P3 x) ∨ (P2 x = P3 x ∧ P1' x = P3 x ∧ P2' x = P1 x ∧ P3' x = P1 x)
section XCHM
variable {n V k : Nat} {G : Nat → Prop} {P1 P2 P3 P1' P2' P3' : Nat → Nat} {rel : (Nat → Bool) → Nat → Nat → Prop} {d p b : Int} {γ : gn9}
theorem flp_cu (h : ∀ x, x < n → flp9 P1 P2 P3 P1' P2' P3' x) (hC : cu9 n V G P1 P2 P3 rel) : cu9 n V G P1' P2' P3' rel := by
  have sw : ∀ (R : Nat → Nat → Prop) a b g h, adr R a b g h ↔ adr R b a g h := fun R a b g h => by
    unfold adr
    constructor <;> rintro (h9 | h9 | h9) <;> first | exact Or.inl h9 | exact Or.inr (Or.inl h9) | exact Or.inr (Or.inr h9)
  refine ⟨⟨hC.1.1, fun s x hx hs => ?_⟩, hC.2.1, hC.2.2.1, fun x hx => ?_⟩
  · rcases h x hx with ⟨e1, e2, e3⟩ | ⟨e0, e1, e2, e3⟩
    · rw [e1, e2, e3]
      exact hC.1.2 s x hx hs
    · rw [e1, e2, e3]
      have hE := hC.1.1 s
      have hF := hC.1.1 (on9 s x)
      rcases hC.1.2 s x hx hs with ⟨h1, h2⟩ | ⟨h1, h2, h3⟩
      · exact Or.inl ⟨fun h9 => h1 (hE.2.1 _ _ h9), fun g k => (h2 g k).trans (sw _ _ _ _ _)⟩
      · rw [e0] at h2 h3
        exact Or.inr ⟨hE.2.1 _ _ h1, fun h9 => h2 (hF.2.1 _ _ h9), fun g k => (h3 g k).trans (sw _ _ _ _ _)⟩
  · obtain ⟨a, b, c⟩ := hC.2.2.2 x hx
    rcases h x hx with ⟨e1, e2, e3⟩ | ⟨e0, e1, e2, e3⟩
    · rw [e1, e2, e3]
      exact ⟨a, b, c⟩
    · rw [e1, e2, e3]
      exact ⟨c, a, a⟩
theorem flp_D (h : ∀ x, x < n → flp9 P1 P2 P3 P1' P2' P3' x) (hC : cu9 n V G P1 P2 P3 rel) (hv : vl9 rel γ) : eq9 (D9 P1 P2 P3 rel n γ) (D9 P1' P2' P3' rel n γ) := fun δ => by
  refine (smf_D (id9 δ) n).trans (Eq.trans ?_ (smf_D (id9 δ) n).symm)
  refine sN_cg (fun x hx => ?_)
  by_cases c : γ.1 x = true
  · rw [if_pos c, if_pos c]
  · have c0 : γ.1 x = false := by
      cases h9 : γ.1 x
      · rfl
      · exact absurd h9 c
    rw [if_neg c, if_neg c]
    congr 1
    show cf9 (dxv9 (rel γ.1) (rel (on9 γ.1 x)) (P1 x) (P2 x) (P3 x) (on9 γ.1 x) γ.2) δ = cf9 (dxv9 (rel γ.1) (rel (on9 γ.1 x)) (P1' x) (P2' x) (P3' x) (on9 γ.1 x) γ.2) δ
    rcases h x hx with ⟨e1, e2, e3⟩ | ⟨e0, e1, e2, e3⟩
    · rw [e1, e2, e3]
    · rw [e1, e2, e3, e0]
      have hE := hC.1.1 γ.1
      have hF := hC.1.1 (on9 γ.1 x)
      unfold dxv9
      by_cases c1 : rel γ.1 (P1 x) (P3 x)
      · rw [if_pos (dcb_t.mpr c1), if_pos (dcb_t.mpr (hE.2.1 _ _ c1)), hv _ _ c1]
        split
        · rfl
        · show (1 : Int) * _ + (1 * _ + 0) = 1 * _ + (1 * _ + 0)
          omega
      · rw [if_neg (fun h9 => c1 (dcb_t.mp h9)), if_neg (fun h9 => c1 (hE.2.1 _ _ (dcb_t.mp h9)))]
        by_cases c2 : γ.2 (P1 x) = true ∧ γ.2 (P3 x) = true
        · rw [if_pos c2, if_pos c2.symm]
        · rw [if_neg c2, if_neg (fun h9 => c2 h9.symm)]
          rcases hC.1.2 γ.1 x hx c0 with ⟨h1, h2⟩ | ⟨h1, -⟩
          · have p13 : rel (on9 γ.1 x) (P1 x) (P3 x) := (h2 _ _).mpr (adr_ab hE)
            have e4 : (fun g => γ.2 g || ((γ.2 (P1 x) || γ.2 (P3 x)) && dcb (rel (on9 γ.1 x) g (P1 x)))) = fun g => γ.2 g || ((γ.2 (P3 x) || γ.2 (P1 x)) && dcb (rel (on9 γ.1 x) g (P3 x))) := funext (fun g => by
              rw [Bool.or_comm (γ.2 (P1 x)), dcb_c (P := rel (on9 γ.1 x) g (P1 x)) (Q := rel (on9 γ.1 x) g (P3 x)) ⟨fun h9 => hF.2.2 _ _ _ h9 p13, fun h9 => hF.2.2 _ _ _ h9 (hF.2.1 _ _ p13)⟩])
            rw [e4]
          · exact absurd h1 c1
theorem be_flp {r : Nat} (h : ∀ x, x < n → flp9 P1 P2 P3 P1' P2' P3' x) (hC : cu9 n V G P1 P2 P3 rel) (hb : be9 p (Sg9 n V G rel k d) (D9 P1 P2 P3 rel n) r b) : be9 p (Sg9 n V G rel k d) (D9 P1' P2' P3' rel n) r b := be_cg (fun r γ hγ => flp_D h hC hγ.2.2.1) hb
end XCHM
