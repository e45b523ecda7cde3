/-! chain: D of D is 0 -/
def par9 (s : Nat → Bool) : Nat → Int
  | 0 => 1
  | x + 1 => if s x = true then -par9 s x else par9 s x
def sN9 (f : Nat → Int) : Nat → Int
  | 0 => 0
  | n + 1 => sN9 f n + f n
noncomputable def D9 (P1 P2 P3 : Nat → Nat) (rel : (Nat → Bool) → Nat → Nat → Prop) : Nat → gn9 → fc9
  | 0, _ => []
  | n + 1, γ => D9 P1 P2 P3 rel n γ ++ (if γ.1 n = true then [] else scf9 (par9 γ.1 n) (Dx9 P1 P2 P3 rel n γ))
noncomputable def mD9 (P1 P2 P3 : Nat → Nat) (rel : (Nat → Bool) → Nat → Nat → Prop) : Nat → (Nat → Bool) → List Nat → fc9
  | 0, _, _ => []
  | n + 1, s, T => mD9 P1 P2 P3 rel n s T ++ (if s n = true then [] else scf9 (par9 s n) (mx9 P1 P2 P3 rel n s T))
section XCH8
variable {n x y : Nat} {P1 P2 P3 : Nat → Nat} {rel : (Nat → Bool) → Nat → Nat → Prop} {s : Nat → Bool} {T : List Nat} {φ : gn9 → Int}
theorem sN_cg {f g : Nat → Int} : ∀ {n : Nat}, (∀ i, i < n → f i = g i) → sN9 f n = sN9 g n
  | 0, _ => rfl
  | n + 1, h => by
    show sN9 f n + f n = sN9 g n + g n
    rw [sN_cg (n := n) (fun i hi => h i (by omega)), h n (by omega)]
theorem sN_a {f g : Nat → Int} : ∀ {n : Nat}, sN9 (fun i => f i + g i) n = sN9 f n + sN9 g n
  | 0 => rfl
  | n + 1 => by
    show sN9 (fun i => f i + g i) n + (f n + g n) = sN9 f n + f n + (sN9 g n + g n)
    rw [sN_a]
    omega
theorem sN_0 : ∀ {n : Nat}, sN9 (fun _ => 0) n = 0
  | 0 => rfl
  | n + 1 => by
    show sN9 (fun _ => 0) n + 0 = 0
    rw [sN_0]
    rfl
theorem sN_an {a : Nat → Nat → Int} (h : ∀ x y, a x y = -a y x) : ∀ n, sN9 (fun x => sN9 (fun y => a x y) n) n = 0
  | 0 => rfl
  | n + 1 => by
    have ih := sN_an h n
    show sN9 (fun x => sN9 (fun y => a x y) n + a x n) n + (sN9 (fun y => a n y) n + a n n) = 0
    rw [sN_a, ih]
    have e : sN9 (fun x => a x n) n + sN9 (fun y => a n y) n = 0 := by
      rw [← sN_a]
      have : (fun i => a i n + a n i) = fun _ => (0 : Int) := funext (fun i => by
        have := h i n
        omega)
      rw [this]
      exact sN_0
    have := h n n
    omega
theorem smf_mD (φ : gn9 → Int) : ∀ n, smf9 φ (mD9 P1 P2 P3 rel n s T) = sN9 (fun x => if s x = true then 0 else par9 s x * smf9 φ (mx9 P1 P2 P3 rel x s T)) n
  | 0 => rfl
  | n + 1 => by
    show smf9 φ (mD9 P1 P2 P3 rel n s T ++ (if s n = true then [] else scf9 (par9 s n) (mx9 P1 P2 P3 rel n s T))) = sN9 _ n + (if s n = true then 0 else par9 s n * smf9 φ (mx9 P1 P2 P3 rel n s T))
    rw [sm_a, smf_mD φ n]
    split
    · rfl
    · rw [sm_sc]
theorem on_c (s : Nat → Bool) (x y : Nat) : on9 (on9 s x) y = on9 (on9 s y) x := funext (fun z => by
  unfold on9
  by_cases h1 : z = x
  · by_cases h2 : z = y
    · rw [if_pos h2, if_pos h1]
    · rw [if_neg h2, if_pos h1, if_pos h1]
  · by_cases h2 : z = y
    · rw [if_pos h2, if_neg h1, if_pos h2]
    · rw [if_neg h2, if_neg h1, if_neg h1, if_neg h2])
theorem on_x : on9 s x x = true := if_pos rfl
theorem on_o (h : y ≠ x) : on9 s x y = s y := if_neg h
theorem par_lo : ∀ {y : Nat}, y ≤ x → par9 (on9 s x) y = par9 s y
  | 0, _ => rfl
  | y + 1, h => by
    show (if on9 s x y = true then -par9 (on9 s x) y else par9 (on9 s x) y) = if s y = true then -par9 s y else par9 s y
    rw [on_o (by omega), par_lo (by omega)]
theorem par_hi (hs : s x = false) : ∀ {y : Nat}, x < y → par9 (on9 s x) y = -par9 s y
  | 0, h => absurd h (Nat.not_lt_zero _)
  | y + 1, h => by
    show (if on9 s x y = true then -par9 (on9 s x) y else par9 (on9 s x) y) = -(if s y = true then -par9 s y else par9 s y)
    by_cases e : y = x
    · rw [e, on_x, if_pos rfl, par_lo (Nat.le_refl x), hs, if_neg (by decide)]
    · rw [on_o e, par_hi hs (by omega)]
      split
      · rfl
      · rfl
theorem par_an (hx : s x = false) (hy : s y = false) (h : x ≠ y) : par9 s x * par9 (on9 s x) y = -(par9 s y * par9 (on9 s y) x) := by
  rcases Nat.lt_or_gt_of_ne h with h1 | h1
  · rw [par_hi hx h1, par_lo (Nat.le_of_lt h1), Int.mul_neg, Int.mul_comm]
  · rw [par_lo (Nat.le_of_lt h1), par_hi hy h1, Int.mul_neg, Int.neg_neg, Int.mul_comm]
theorem mo_sw {a b : Nat} (hE : eqv9 (rel s)) : mo9 rel s (a :: b :: T) = mo9 rel s (b :: a :: T) := by
  have e1 : ∀ a b, fe9 rel s (a :: b :: T) → fe9 rel s (b :: a :: T) := fun a b h => by
    obtain ⟨h1, h2⟩ := List.pairwise_cons.mp h
    obtain ⟨h3, h4⟩ := List.pairwise_cons.mp h2
    refine List.pairwise_cons.mpr ⟨fun k hk => ?_, List.pairwise_cons.mpr ⟨fun k hk => h1 k (List.mem_cons_of_mem _ hk), h4⟩⟩
    rcases List.mem_cons.mp hk with e | e
    · rw [e]
      exact fun h9 => h1 b List.mem_cons_self (hE.2.1 _ _ h9)
    · exact h3 k e
  by_cases c : fe9 rel s (a :: b :: T)
  · rw [mo_y c, mo_y (e1 a b c)]
    have : inm9 rel s (a :: b :: T) = inm9 rel s (b :: a :: T) := funext (fun g => bx (by
      rw [in_t, in_t]
      constructor
      · rintro ⟨h, t, r⟩
        refine ⟨h, ?_, r⟩
        rcases List.mem_cons.mp t with e | e
        · rw [e]
          exact List.mem_cons_of_mem _ List.mem_cons_self
        · rcases List.mem_cons.mp e with e | e
          · rw [e]
            exact List.mem_cons_self
          · exact List.mem_cons_of_mem _ (List.mem_cons_of_mem _ e)
      · rintro ⟨h, t, r⟩
        refine ⟨h, ?_, r⟩
        rcases List.mem_cons.mp t with e | e
        · rw [e]
          exact List.mem_cons_of_mem _ List.mem_cons_self
        · rcases List.mem_cons.mp e with e | e
          · rw [e]
            exact List.mem_cons_self
          · exact List.mem_cons_of_mem _ (List.mem_cons_of_mem _ e)))
    rw [this]
  · rw [mo_n9 c, mo_n9 (fun h9 => c (e1 b a h9))]
theorem mo_rp {a b : Nat} (hE : eqv9 (rel s)) (h : rel s a b) : mo9 rel s (a :: T) = mo9 rel s (b :: T) := by
  have e1 : ∀ a b, rel s a b → fe9 rel s (a :: T) → fe9 rel s (b :: T) := fun a b h h9 => by
    obtain ⟨h1, h2⟩ := List.pairwise_cons.mp h9
    exact List.pairwise_cons.mpr ⟨fun k hk h8 => h1 k hk (hE.2.2 _ _ _ h h8), h2⟩
  have e2 : ∀ a b g, rel s a b → (∃ k, k ∈ a :: T ∧ rel s g k) → ∃ k, k ∈ b :: T ∧ rel s g k := fun a b g h ⟨k, t, r⟩ => by
    rcases List.mem_cons.mp t with e | e
    · rw [e] at r
      exact ⟨b, List.mem_cons_self, hE.2.2 _ _ _ r h⟩
    · exact ⟨k, List.mem_cons_of_mem _ e, r⟩
  by_cases c : fe9 rel s (a :: T)
  · rw [mo_y c, mo_y (e1 a b h c)]
    have : inm9 rel s (a :: T) = inm9 rel s (b :: T) := funext (fun g => bx (by
      rw [in_t, in_t]
      exact ⟨e2 a b g h, e2 b a g (hE.2.1 _ _ h)⟩))
    rw [this]
  · rw [mo_n9 c, mo_n9 (fun h9 => c (e1 b a (hE.2.1 _ _ h) h9))]
/-- two crossings turned, x first -/
noncomputable def dd9 (P1 P2 P3 : Nat → Nat) (rel : (Nat → Bool) → Nat → Nat → Prop) (x y : Nat) (s : Nat → Bool) (T : List Nat) : fc9 := if dcb (rel s (P1 x) (P3 x)) = true then mx9 P1 P2 P3 rel y (on9 s x) (P1 x :: T) ++ mx9 P1 P2 P3 rel y (on9 s x) (P2 x :: T) else mx9 P1 P2 P3 rel y (on9 s x) T
/-- how two crossings stand to each other -/
theorem dd_cs (hC : cub9 n P1 P2 P3 rel) (hx : x < n) (hy : y < n) (sx : s x = false) (sy : s y = false) (hne : x ≠ y) : (rel s (P1 x) (P3 x) → ¬ rel (on9 s y) (P1 x) (P3 x) → (rel s (P1 y) (P3 y) ∧ ¬ rel (on9 s x) (P1 y) (P3 y)) ∧ ∀ a b, (a = P1 x ∨ a = P2 x) → (b = P1 y ∨ b = P2 y) → rel (on9 (on9 s x) y) a b) ∧ (¬ rel s (P1 x) (P3 x) → rel (on9 s y) (P1 x) (P3 x) → (¬ rel s (P1 y) (P3 y) ∧ rel (on9 s x) (P1 y) (P3 y)) ∧ (rel (on9 (on9 s x) y) (P1 x) (P1 y) ∧ rel (on9 (on9 s x) y) (P2 x) (P2 y) ∨ rel (on9 (on9 s x) y) (P1 x) (P2 y) ∧ rel (on9 (on9 s x) y) (P2 x) (P1 y))) := by
  have hE := hC.1
  have sxy : on9 s x y = false := by rw [on_o (fun h9 => hne h9.symm)]; exact sy
  have syx : on9 s y x = false := by rw [on_o hne]; exact sx
  have cx := hC.2 s x hx sx
  have cy := hC.2 s y hy sy
  have cxy := hC.2 (on9 s x) y hy sxy
  have cyx := hC.2 (on9 s y) x hx syx
  rw [← on_c s x y] at cyx
  constructor
  · intro hA hB
    obtain ⟨-, x2, x3⟩ := cx.resolve_left (fun h9 => h9.1 hA)
    -- y parts s
    have hA' : rel s (P1 y) (P3 y) := by
      rcases cy with ⟨h1, h2⟩ | ⟨h1, -⟩
      · exact absurd ((h2 _ _).mpr (Or.inl hA)) hB
      · exact h1
    obtain ⟨-, y2, y3⟩ := cy.resolve_left (fun h9 => h9.1 hA')
    obtain ⟨-, u3⟩ := cyx.resolve_right (fun h9 => hB h9.1)
    have hBq : ¬ rel (on9 s x) (P1 y) (P3 y) := fun h9 => by
      obtain ⟨-, v2, v3⟩ := cxy.resolve_left (fun h8 => h8.1 h9)
      -- rel u lies between rel (s y) and rel s
      have q := adr_bt (hE (on9 s y)) (hE (on9 (on9 s x) y)) (fun g h h8 => (u3 g h).mpr (Or.inl h8)) (fun g h h8 => (y3 g h).mp ((x3 g h).mpr (Or.inl ((v3 g h).mpr (Or.inl h8))))) ((u3 _ _).mpr (adr_ab (hE (on9 s y)))) hB
      exact v2 (q _ _ ((y3 _ _).mp ((x3 _ _).mpr (Or.inl ((v3 _ _).mpr (adr_ab (hE _)))))))
    obtain ⟨-, w3⟩ := cxy.resolve_right (fun h9 => hBq h9.1)
    refine ⟨⟨hA', hBq⟩, ?_⟩
    -- u = s
    have us : ∀ g h, rel s g h → rel (on9 (on9 s x) y) g h := fun g h h9 => by
      have q := adr_bt (hE (on9 s x)) (hE s) (fun g h h8 => (x3 g h).mpr (Or.inl h8)) (fun g h h8 => (x3 g h).mp h8) hA' hBq
      have q2 : ∀ g h, adr (rel (on9 s x)) (P1 x) (P2 x) g h → rel (on9 (on9 s x) y) g h := by
        -- P1 x, P2 x are one in u
        have h12 : rel (on9 (on9 s x) y) (P1 x) (P2 x) := by
          have hu := (w3 _ _).mpr (adr_ab (hE (on9 s x)) (a := P1 y) (b := P3 y))
          have up : ∀ g h, rel (on9 s x) g h → rel (on9 (on9 s x) y) g h := fun g h h8 => (w3 g h).mpr (Or.inl h8)
          rcases (x3 _ _).mp hA' with h8 | ⟨h8, h7⟩ | ⟨h8, h7⟩
          · exact absurd h8 hBq
          · exact (hE _).2.2 _ _ _ ((hE _).2.1 _ _ (up _ _ h8)) ((hE _).2.2 _ _ _ hu (up _ _ h7))
          · exact (hE _).2.2 _ _ _ ((hE _).2.1 _ _ (up _ _ h7)) ((hE _).2.2 _ _ _ ((hE _).2.1 _ _ hu) (up _ _ h8))
        intro g h h8
        have up : ∀ g h, rel (on9 s x) g h → rel (on9 (on9 s x) y) g h := fun g h h8 => (w3 g h).mpr (Or.inl h8)
        rcases h8 with h8 | ⟨h8, h7⟩ | ⟨h8, h7⟩
        · exact up _ _ h8
        · exact (hE _).2.2 _ _ _ (up _ _ h8) ((hE _).2.2 _ _ _ h12 ((hE _).2.1 _ _ (up _ _ h7)))
        · exact (hE _).2.2 _ _ _ (up _ _ h8) ((hE _).2.2 _ _ _ ((hE _).2.1 _ _ h12) ((hE _).2.1 _ _ (up _ _ h7)))
      exact q2 g h ((x3 g h).mp h9)
    have sx12 : rel s (P1 x) (P2 x) := (x3 _ _).mpr (adr_ab (hE _))
    have sy12 : rel s (P1 y) (P2 y) := (y3 _ _).mpr (adr_ab (hE _))
    have sxy1 : rel s (P1 x) (P1 y) := by
      rcases (x3 _ _).mp hA' with h8 | ⟨h8, h7⟩ | ⟨h8, h7⟩
      · exact absurd h8 hBq
      · exact (hE s).2.1 _ _ ((x3 _ _).mpr (Or.inl h8))
      · exact (hE s).2.2 _ _ _ sx12 ((hE s).2.1 _ _ ((x3 _ _).mpr (Or.inl h8)))
    intro a b ha hb
    refine us a b ?_
    have a1 : rel s a (P1 x) := by
      rcases ha with e | e
      · rw [e]
        exact (hE s).1 _
      · rw [e]
        exact (hE s).2.1 _ _ sx12
    have b1 : rel s (P1 y) b := by
      rcases hb with e | e
      · rw [e]
        exact (hE s).1 _
      · rw [e]
        exact sy12
    exact (hE s).2.2 _ _ _ a1 ((hE s).2.2 _ _ _ sxy1 b1)
  · intro hA hB
    obtain ⟨-, x3⟩ := cx.resolve_right (fun h9 => hA h9.1)
    have hA' : ¬ rel s (P1 y) (P3 y) := fun h9 => by
      obtain ⟨-, y2, y3⟩ := cy.resolve_left (fun h8 => h8.1 h9)
      exact hA ((y3 _ _).mpr (Or.inl hB))
    obtain ⟨-, y3⟩ := cy.resolve_right (fun h9 => hA' h9.1)
    have eq1 : ∀ g h, rel (on9 s y) g h → rel (on9 s x) g h := fun g h h9 => by
      have q := adr_bt (hE s) (hE (on9 s x)) (a := P1 y) (b := P3 y) (c := P1 x) (d := P3 x) (fun g h h8 => (x3 g h).mpr (Or.inl h8)) (fun g h h8 => ?_) ((x3 _ _).mpr (adr_ab (hE s))) hA
      · exact q g h ((y3 g h).mp h9)
      · -- rel (s x) within rel (s y)
        refine (y3 g h).mp ?_
        rcases (x3 g h).mp h8 with h7 | ⟨h7, h6⟩ | ⟨h7, h6⟩
        · exact (y3 _ _).mpr (Or.inl h7)
        · exact (hE _).2.2 _ _ _ ((y3 _ _).mpr (Or.inl h7)) ((hE _).2.2 _ _ _ hB ((hE _).2.1 _ _ ((y3 _ _).mpr (Or.inl h6))))
        · exact (hE _).2.2 _ _ _ ((y3 _ _).mpr (Or.inl h7)) ((hE _).2.2 _ _ _ ((hE _).2.1 _ _ hB) ((hE _).2.1 _ _ ((y3 _ _).mpr (Or.inl h6))))
    have hBq : rel (on9 s x) (P1 y) (P3 y) := eq1 _ _ ((y3 _ _).mpr (adr_ab (hE s)))
    refine ⟨⟨hA', hBq⟩, ?_⟩
    obtain ⟨-, v2, v3⟩ := cxy.resolve_left (fun h8 => h8.1 hBq)
    obtain ⟨-, w2, w3⟩ := cyx.resolve_left (fun h8 => h8.1 hB)
    have h12 : rel (on9 s x) (P1 x) (P2 x) := eq1 _ _ ((w3 _ _).mpr (adr_ab (hE _)))
    rcases (v3 _ _).mp h12 with h8 | ⟨h8, h7⟩ | ⟨h8, h7⟩
    · exact absurd h8 w2
    · exact Or.inl ⟨h8, h7⟩
    · exact Or.inr ⟨h8, h7⟩
theorem mx_y (h : rel s (P1 x) (P3 x)) : mx9 P1 P2 P3 rel x s T = mo9 rel (on9 s x) (P1 x :: T) ++ mo9 rel (on9 s x) (P2 x :: T) := if_pos (dcb_t.mpr h)
theorem mx_n (h : ¬ rel s (P1 x) (P3 x)) : mx9 P1 P2 P3 rel x s T = mo9 rel (on9 s x) T := if_neg (fun h9 => h (dcb_t.mp h9))
theorem dd_y (h : rel s (P1 x) (P3 x)) : dd9 P1 P2 P3 rel x y s T = mx9 P1 P2 P3 rel y (on9 s x) (P1 x :: T) ++ mx9 P1 P2 P3 rel y (on9 s x) (P2 x :: T) := if_pos (dcb_t.mpr h)
theorem dd_n (h : ¬ rel s (P1 x) (P3 x)) : dd9 P1 P2 P3 rel x y s T = mx9 P1 P2 P3 rel y (on9 s x) T := if_neg (fun h9 => h (dcb_t.mp h9))
theorem dd_sym (hC : cub9 n P1 P2 P3 rel) (hx : x < n) (hy : y < n) (sx : s x = false) (sy : s y = false) (hne : x ≠ y) : eq9 (dd9 P1 P2 P3 rel x y s T) (dd9 P1 P2 P3 rel y x s T) := by
  have hE := hC.1
  have c1 := dd_cs hC hx hy sx sy hne
  have c2 := dd_cs hC hy hx sy sx (fun h9 => hne h9.symm)
  have eu : on9 (on9 s y) x = on9 (on9 s x) y := (on_c s x y).symm
  by_cases hA : rel s (P1 x) (P3 x)
  · by_cases hB' : rel (on9 s y) (P1 x) (P3 x)
    · by_cases hA' : rel s (P1 y) (P3 y)
      · have hB : rel (on9 s x) (P1 y) (P3 y) := by
          apply Classical.byContradiction
          intro h9
          exact (c2.1 hA' h9).1.2 hB'
        rw [dd_y hA, dd_y hA', mx_y hB, mx_y hB, mx_y hB', mx_y hB', eu, mo_sw (hE _) (a := P1 x) (b := P1 y), mo_sw (hE _) (a := P1 x) (b := P2 y), mo_sw (hE _) (a := P2 x) (b := P1 y), mo_sw (hE _) (a := P2 x) (b := P2 y)]
        intro γ
        rw [cf_a, cf_a, cf_a, cf_a, cf_a, cf_a]
        omega
      · have hB : ¬ rel (on9 s x) (P1 y) (P3 y) := fun h9 => (c2.2 hA' h9).1.1 hA
        rw [dd_y hA, dd_n hA', mx_n hB, mx_n hB, mx_y hB', eu]
        exact eq_r
    · obtain ⟨⟨hA', hB⟩, hr⟩ := c1.1 hA hB'
      rw [dd_y hA, dd_y hA', mx_n hB, mx_n hB, mx_n hB', mx_n hB', eu]
      rw [mo_rp (hE _) (hr (P1 x) (P1 y) (Or.inl rfl) (Or.inl rfl)), mo_rp (hE _) (hr (P2 x) (P2 y) (Or.inr rfl) (Or.inr rfl))]
      exact eq_r
  · by_cases hB' : rel (on9 s y) (P1 x) (P3 x)
    · obtain ⟨⟨hA', hB⟩, hr⟩ := c1.2 hA hB'
      rw [dd_n hA, dd_n hA', mx_y hB, mx_y hB', eu]
      rcases hr with ⟨h1, h2⟩ | ⟨h1, h2⟩
      · rw [mo_rp (hE _) h1, mo_rp (hE _) h2]
        exact eq_r
      · rw [mo_rp (hE _) h1, mo_rp (hE _) h2]
        exact eq_cm
    · by_cases hA' : rel s (P1 y) (P3 y)
      · have hB : rel (on9 s x) (P1 y) (P3 y) := by
          apply Classical.byContradiction
          intro h9
          exact hA (c2.1 hA' h9).1.1
        rw [dd_n hA, dd_y hA', mx_y hB, mx_n hB', mx_n hB', eu]
        exact eq_r
      · have hB : ¬ rel (on9 s x) (P1 y) (P3 y) := fun h9 => hB' (c2.2 hA' h9).1.2
        rw [dd_n hA, dd_n hA', mx_n hB, mx_n hB', eu]
        exact eq_r
/-- D on a monomial -/
theorem D_mo (hC : cub9 n P1 P2 P3 rel) (s : Nat → Bool) (T : List Nat) : ∀ k, k ≤ n → eq9 (bd9 (D9 P1 P2 P3 rel k) (mo9 rel s T)) (mD9 P1 P2 P3 rel k s T) := by
  intro k
  induction k with
  | zero =>
    intro _ γ
    show smf9 (id9 γ) (bd9 (D9 P1 P2 P3 rel 0) (mo9 rel s T)) = 0
    rw [sm_bd]
    have : ∀ l : fc9, smf9 (fun δ => smf9 (id9 γ) (D9 P1 P2 P3 rel 0 δ)) l = 0 := fun l => by
      induction l with
      | nil => rfl
      | cons q l ih =>
        show q.1 * 0 + smf9 (fun δ => smf9 (id9 γ) (D9 P1 P2 P3 rel 0 δ)) l = 0
        rw [ih, Int.mul_zero]
        rfl
    exact this _
  | succ k ih =>
    intro hk γ
    have ih9 := ih (by omega) γ
    show smf9 (id9 γ) (bd9 (D9 P1 P2 P3 rel (k + 1)) (mo9 rel s T)) = smf9 (id9 γ) (mD9 P1 P2 P3 rel k s T ++ (if s k = true then [] else scf9 (par9 s k) (mx9 P1 P2 P3 rel k s T)))
    have ih9 : smf9 (id9 γ) (bd9 (D9 P1 P2 P3 rel k) (mo9 rel s T)) = smf9 (id9 γ) (mD9 P1 P2 P3 rel k s T) := ih9
    rw [sm_a, ← ih9, sm_bd, sm_bd]
    by_cases hf : fe9 rel s T
    · rw [mo_y hf]
      show 1 * smf9 (id9 γ) (D9 P1 P2 P3 rel k (s, inm9 rel s T) ++ (if s k = true then [] else scf9 (par9 s k) (Dx9 P1 P2 P3 rel k (s, inm9 rel s T)))) + 0 = 1 * smf9 (id9 γ) (D9 P1 P2 P3 rel k (s, inm9 rel s T)) + 0 + _
      rw [sm_a]
      by_cases c : s k = true
      · rw [if_pos c, if_pos c]
        omega
      · rw [if_neg c, if_neg c, sm_sc, sm_sc]
        have h1 := dx_mo hC (x := k) (by omega) (show s k = false by cases h : s k <;> simp_all) T γ
        rw [mo_y hf] at h1
        have h2 := bd_1 (f := Dx9 P1 P2 P3 rel k) (s, inm9 rel s T) γ
        have h3 : smf9 (id9 γ) (Dx9 P1 P2 P3 rel k (s, inm9 rel s T)) = smf9 (id9 γ) (mx9 P1 P2 P3 rel k s T) := h2.symm.trans h1
        rw [h3]
        omega
    · rw [mo_n9 hf]
      show (0 : Int) = 0 + _
      by_cases c : s k = true
      · rw [if_pos c]
        rfl
      · rw [if_neg c, sm_sc]
        have h1 := dx_mo hC (x := k) (by omega) (show s k = false by cases h : s k <;> simp_all) T γ
        rw [mo_n9 hf] at h1
        have h3 : (0 : Int) = smf9 (id9 γ) (mx9 P1 P2 P3 rel k s T) := h1
        rw [← h3, Int.mul_zero]
        rfl
/-- D OF D IS 0 -/
theorem DD_0 (hC : cub9 n P1 P2 P3 rel) (s : Nat → Bool) (T : List Nat) (γ : gn9) : cf9 (bd9 (D9 P1 P2 P3 rel n) (mD9 P1 P2 P3 rel n s T)) γ = 0 := by
  have e1 : cf9 (bd9 (D9 P1 P2 P3 rel n) (mD9 P1 P2 P3 rel n s T)) γ = sN9 (fun x => if s x = true then 0 else par9 s x * smf9 (fun δ => smf9 (id9 γ) (D9 P1 P2 P3 rel n δ)) (mx9 P1 P2 P3 rel x s T)) n := by
    show smf9 (id9 γ) (bd9 (D9 P1 P2 P3 rel n) (mD9 P1 P2 P3 rel n s T)) = _
    rw [sm_bd, smf_mD]
  have e0 : ∀ t T', smf9 (fun δ => smf9 (id9 γ) (D9 P1 P2 P3 rel n δ)) (mo9 rel t T') = sN9 (fun y => if t y = true then 0 else par9 t y * cf9 (mx9 P1 P2 P3 rel y t T') γ) n := fun t T' => by
    have h1 := D_mo hC t T' n (Nat.le_refl n) γ
    have h2 : smf9 (id9 γ) (bd9 (D9 P1 P2 P3 rel n) (mo9 rel t T')) = smf9 (id9 γ) (mD9 P1 P2 P3 rel n t T') := h1
    rw [sm_bd, smf_mD] at h2
    exact h2
  have e2 : ∀ x, smf9 (fun δ => smf9 (id9 γ) (D9 P1 P2 P3 rel n δ)) (mx9 P1 P2 P3 rel x s T) = sN9 (fun y => if on9 s x y = true then 0 else par9 (on9 s x) y * cf9 (dd9 P1 P2 P3 rel x y s T) γ) n := fun x => by
    by_cases hA : rel s (P1 x) (P3 x)
    · rw [mx_y hA, sm_a, e0, e0, ← sN_a]
      refine sN_cg (fun y _ => ?_)
      split
      · rfl
      · rw [dd_y hA, cf_a, Int.mul_add]
    · rw [mx_n hA, e0]
      refine sN_cg (fun y _ => ?_)
      rw [dd_n hA]
  rw [e1]
  let a : Nat → Nat → Int := fun x y => if s x = true ∨ s y = true ∨ x = y ∨ n ≤ x ∨ n ≤ y then 0 else par9 s x * par9 (on9 s x) y * cf9 (dd9 P1 P2 P3 rel x y s T) γ
  have ha : ∀ x y, a x y = -a y x := fun x y => by
    show (if s x = true ∨ s y = true ∨ x = y ∨ n ≤ x ∨ n ≤ y then 0 else par9 s x * par9 (on9 s x) y * cf9 (dd9 P1 P2 P3 rel x y s T) γ) = -(if s y = true ∨ s x = true ∨ y = x ∨ n ≤ y ∨ n ≤ x then 0 else par9 s y * par9 (on9 s y) x * cf9 (dd9 P1 P2 P3 rel y x s T) γ)
    by_cases c : s x = true ∨ s y = true ∨ x = y ∨ n ≤ x ∨ n ≤ y
    · rw [if_pos c, if_pos (by
        rcases c with c | c | c | c | c
        · exact Or.inr (Or.inl c)
        · exact Or.inl c
        · exact Or.inr (Or.inr (Or.inl c.symm))
        · exact Or.inr (Or.inr (Or.inr (Or.inr c)))
        · exact Or.inr (Or.inr (Or.inr (Or.inl c))))]
      rfl
    · rw [if_neg c, if_neg (fun h9 => c (by
        rcases h9 with c | c | c | c | c
        · exact Or.inr (Or.inl c)
        · exact Or.inl c
        · exact Or.inr (Or.inr (Or.inl c.symm))
        · exact Or.inr (Or.inr (Or.inr (Or.inr c)))
        · exact Or.inr (Or.inr (Or.inr (Or.inl c)))))]
      have sx : s x = false := by
        cases h : s x
        · rfl
        · exact absurd (Or.inl h) c
      have sy : s y = false := by
        cases h : s y
        · rfl
        · exact absurd (Or.inr (Or.inl h)) c
      have hne : x ≠ y := fun h9 => c (Or.inr (Or.inr (Or.inl h9)))
      have hx : x < n := Nat.lt_of_not_le (fun h9 => c (Or.inr (Or.inr (Or.inr (Or.inl h9)))))
      have hy : y < n := Nat.lt_of_not_le (fun h9 => c (Or.inr (Or.inr (Or.inr (Or.inr h9)))))
      rw [dd_sym hC hx hy sx sy hne γ, par_an sx sy hne, Int.neg_mul]
  have e3 : sN9 (fun x => if s x = true then 0 else par9 s x * smf9 (fun δ => smf9 (id9 γ) (D9 P1 P2 P3 rel n δ)) (mx9 P1 P2 P3 rel x s T)) n = sN9 (fun x => sN9 (fun y => a x y) n) n := sN_cg (fun x hx => by
    by_cases c : s x = true
    · rw [if_pos c]
      have : (fun y => a x y) = fun _ => (0 : Int) := funext (fun y => if_pos (Or.inl c))
      rw [this, sN_0]
    · rw [if_neg c, e2 x]
      have mul : ∀ (f : Nat → Int) (k : Nat), par9 s x * sN9 f k = sN9 (fun y => par9 s x * f y) k := fun f k => by
        induction k with
        | zero => exact Int.mul_zero _
        | succ k ih =>
          show par9 s x * (sN9 f k + f k) = sN9 (fun y => par9 s x * f y) k + par9 s x * f k
          rw [Int.mul_add, ih]
      rw [mul]
      refine sN_cg (fun y hy => ?_)
      show par9 s x * (if on9 s x y = true then 0 else par9 (on9 s x) y * cf9 (dd9 P1 P2 P3 rel x y s T) γ) = if s x = true ∨ s y = true ∨ x = y ∨ n ≤ x ∨ n ≤ y then 0 else par9 s x * par9 (on9 s x) y * cf9 (dd9 P1 P2 P3 rel x y s T) γ
      by_cases e : y = x
      · rw [e, on_x, if_pos rfl, if_pos (Or.inr (Or.inr (Or.inl rfl))), Int.mul_zero]
      · rw [on_o e]
        by_cases c2 : s y = true
        · rw [if_pos c2, if_pos (Or.inr (Or.inl c2)), Int.mul_zero]
        · rw [if_neg c2, if_neg (fun h9 => by
            rcases h9 with h9 | h9 | h9 | h9 | h9
            · exact c h9
            · exact c2 h9
            · exact e h9.symm
            · omega
            · omega), Int.mul_assoc])
  rw [e3]
  exact sN_an ha n
end XCH8
