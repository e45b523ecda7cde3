-- CHAIN: how many loops, the degree, the groups of a cube
def ld9 (R : Nat → Nat → Prop) (G : Nat → Prop) (g : Nat) : Prop := G g ∧ ∀ h, h < g → G h → ¬ R h g
noncomputable def cls9 (R : Nat → Nat → Prop) (G : Nat → Prop) (V : Nat) (Q : Nat → Prop) : Nat := cn9 (fun g => ld9 R G g ∧ Q g) V
def ons9 (s : Nat → Bool) : Nat → Nat
  | 0 => 0
  | n + 1 => ons9 s n + if s n = true then 1 else 0
noncomputable def dg9 (rel : (Nat → Bool) → Nat → Nat → Prop) (G : Nat → Prop) (V n : Nat) (γ : gn9) : Int := cls9 (rel γ.1) G V (fun _ => True) - 2 * cls9 (rel γ.1) G V (fun g => γ.2 g = true) + ons9 γ.1 n
section XCHG
variable {R R' : Nat → Nat → Prop} {G : Nat → Prop} {V : Nat} {Q Q' : Nat → Prop}
theorem ld_ex (hR : eqv9 R) : ∀ g, G g → ∃ l, ld9 R G l ∧ R l g ∧ l ≤ g := fun g => by
  induction g using Nat.strongRecOn with
  | ind g ih =>
    intro hg
    by_cases c : ∃ h, h < g ∧ G h ∧ R h g
    · obtain ⟨h, h1, h2, h3⟩ := c
      obtain ⟨l, l1, l2, l3⟩ := ih h h1 h2
      exact ⟨l, l1, hR.2.2 _ _ _ l2 h3, by omega⟩
    · exact ⟨g, ⟨hg, fun h h1 h2 h3 => c ⟨h, h1, h2, h3⟩⟩, hR.1 g, Nat.le_refl g⟩
theorem ld_un {l l' : Nat} (hR : eqv9 R) (h : ld9 R G l) (h' : ld9 R G l') (e : R l l') : l = l' := by
  rcases Nat.lt_trichotomy l l' with c | c | c
  · exact absurd e (h'.2 l c h.1)
  · exact c
  · exact absurd (hR.2.1 _ _ e) (h.2 l' c h'.1)
theorem ld_le {l g : Nat} (hR : eqv9 R) (h : ld9 R G l) (hg : G g) (e : R l g) : l ≤ g := by
  rcases Nat.lt_or_ge g l with c | c
  · exact absurd (hR.2.1 _ _ e) (h.2 g c hg)
  · exact c
theorem cl_cg (h : ∀ g, G g → (Q g ↔ Q' g)) : cls9 R G V Q = cls9 R G V Q' := cn_cg (fun g _ => ⟨fun h9 => ⟨h9.1, (h g h9.1.1).mp h9.2⟩, fun h9 => ⟨h9.1, (h g h9.1.1).mpr h9.2⟩⟩)
theorem cl_rg (h : ∀ g k, G g → G k → (R g k ↔ R' g k)) : cls9 R G V Q = cls9 R' G V Q := cn_cg (fun g _ => by
  have e : ld9 R G g ↔ ld9 R' G g := ⟨fun h9 => ⟨h9.1, fun k h1 h2 h3 => h9.2 k h1 h2 ((h k g h2 h9.1).mpr h3)⟩, fun h9 => ⟨h9.1, fun k h1 h2 h3 => h9.2 k h1 h2 ((h k g h2 h9.1).mp h3)⟩⟩
  exact ⟨fun h9 => ⟨e.mp h9.1, h9.2⟩, fun h9 => ⟨e.mpr h9.1, h9.2⟩⟩)
/-- a class more -/
theorem cl_add {b : Nat} (hR : eqv9 R) (hV : ∀ g, G g → g < V) (hb : G b) (hQ : ∀ g h, R g h → Q g → Q h) (hn : ¬ Q b) (h : ∀ g, G g → (Q' g ↔ Q g ∨ R g b)) : cls9 R G V Q' = cls9 R G V Q + 1 := by
  obtain ⟨l, l1, l2, -⟩ := ld_ex hR b hb
  refine cn_one (a := l) (hV l l1.1) (fun h9 => hn (hQ _ _ l2 h9.2)) (fun g _ => ⟨fun h9 => ?_, fun h9 => ?_⟩)
  · rcases (h g h9.1.1).mp h9.2 with k | k
    · exact Or.inl ⟨h9.1, k⟩
    · exact Or.inr (ld_un hR h9.1 l1 (hR.2.2 _ _ _ k (hR.2.1 _ _ l2)))
  · rcases h9 with k | k
    · exact ⟨k.1, (h g k.1.1).mpr (Or.inl k.2)⟩
    · rw [k]
      exact ⟨l1, (h l l1.1).mpr (Or.inr l2)⟩
/-- two classes become one -/
theorem cl_mrg {a b : Nat} (hR : eqv9 R) (hR' : ∀ g h, R' g h ↔ adr R a b g h) (hab : ¬ R a b) (hV : ∀ g, G g → g < V) (ha : G a) (hb : G b) (hQ : ∀ g h, R g h → Q g → Q h) (hq : Q a ↔ Q b) : (Q a → cls9 R G V Q = cls9 R' G V Q + 1) ∧ (¬ Q a → cls9 R G V Q = cls9 R' G V Q) := by
  -- the greater of the two least ones goes
  have key : ∀ a b, (∀ g h, R' g h ↔ adr R a b g h) → ¬ R a b → (Q a ↔ Q b) → ∀ la lb, ld9 R G la → ld9 R G lb → R la a → R lb b → la < lb → (Q a → cls9 R G V Q = cls9 R' G V Q + 1) ∧ (¬ Q a → cls9 R G V Q = cls9 R' G V Q) := fun a b hR' hab hq la lb A B ra rb lt => by
    have e : ∀ g, ld9 R' G g ↔ ld9 R G g ∧ g ≠ lb := fun g => by
      constructor
      · intro h9
        refine ⟨⟨h9.1, fun k h1 h2 h3 => h9.2 k h1 h2 ((hR' k g).mpr (Or.inl h3))⟩, fun h8 => ?_⟩
        rw [h8] at h9
        exact h9.2 la lt A.1 ((hR' la lb).mpr (Or.inr (Or.inl ⟨ra, rb⟩)))
      · rintro ⟨h9, h8⟩
        refine ⟨h9.1, fun k h1 h2 h3 => ?_⟩
        rcases (hR' k g).mp h3 with k1 | ⟨k1, k2⟩ | ⟨k1, k2⟩
        · exact h9.2 k h1 h2 k1
        · exact h8 (ld_un hR h9 B (hR.2.2 _ _ _ k2 (hR.2.1 _ _ rb)))
        · have e1 : g = la := ld_un hR h9 A (hR.2.2 _ _ _ k2 (hR.2.1 _ _ ra))
          have e2 := ld_le hR B h2 (hR.2.2 _ _ _ rb (hR.2.1 _ _ k1))
          omega
    constructor
    · intro qa
      refine cn_one (a := lb) (hV lb B.1) (fun h9 => ((e lb).mp h9.1).2 rfl) (fun g _ => ⟨fun h9 => ?_, fun h9 => ?_⟩)
      · by_cases c : g = lb
        · exact Or.inr c
        · exact Or.inl ⟨(e g).mpr ⟨h9.1, c⟩, h9.2⟩
      · rcases h9 with k | k
        · exact ⟨((e g).mp k.1).1, k.2⟩
        · rw [k]
          exact ⟨B, hQ _ _ (hR.2.1 _ _ rb) (hq.mp qa)⟩
    · intro qa
      refine cn_cg (fun g _ => ⟨fun h9 => ⟨(e g).mpr ⟨h9.1, fun h8 => ?_⟩, h9.2⟩, fun h9 => ⟨((e g).mp h9.1).1, h9.2⟩⟩)
      rw [h8] at h9
      exact qa (hq.mpr (hQ _ _ rb h9.2))
  obtain ⟨la, A, ra, -⟩ := ld_ex hR a ha
  obtain ⟨lb, B, rb, -⟩ := ld_ex hR b hb
  rcases Nat.lt_trichotomy la lb with c | c | c
  · exact key a b hR' hab hq la lb A B ra rb c
  · rw [← c] at rb
    exact absurd (hR.2.2 _ _ _ (hR.2.1 _ _ ra) rb) hab
  · have k := key b a (fun g h => (hR' g h).trans (by unfold adr; constructor <;> rintro (h9 | h9 | h9) <;> first | exact Or.inl h9 | exact Or.inr (Or.inl h9) | exact Or.inr (Or.inr h9))) (fun h9 => hab (hR.2.1 _ _ h9)) hq.symm lb la B A rb ra c
    exact ⟨fun h9 => k.1 (hq.mp h9), fun h9 => k.2 (fun h8 => h9 (hq.mpr h8))⟩
theorem ons_on {s : Nat → Bool} {x : Nat} (hs : s x = false) : ∀ {n : Nat}, x < n → ons9 (on9 s x) n = ons9 s n + 1
  | 0, h => absurd h (Nat.not_lt_zero _)
  | n + 1, h => by
    show ons9 (on9 s x) n + (if on9 s x n = true then 1 else 0) = ons9 s n + (if s n = true then 1 else 0) + 1
    by_cases e : x = n
    · rw [← e, on_x, hs, if_pos rfl, if_neg (by decide)]
      have : ∀ k, k ≤ x → ons9 (on9 s x) k = ons9 s k := fun k => by
        induction k with
        | zero => intro _; rfl
        | succ k ih =>
          intro hk
          show ons9 (on9 s x) k + (if on9 s x k = true then 1 else 0) = ons9 s k + (if s k = true then 1 else 0)
          rw [ih (by omega), on_o (by omega)]
      rw [this x (Nat.le_refl x)]
    · rw [ons_on hs (n := n) (by omega), on_o (by omega)]
      omega
end XCHG
/-- a cube over the gaps G -/
def cu9 (n V : Nat) (G : Nat → Prop) (P1 P2 P3 : Nat → Nat) (rel : (Nat → Bool) → Nat → Nat → Prop) : Prop := cub9 n P1 P2 P3 rel ∧ (∀ s, (∀ y, n ≤ y → s y = false) → ∀ g h, rel s g h → g ≠ h → G g ∧ G h) ∧ (∀ g, G g → g < V) ∧ ∀ x, x < n → G (P1 x) ∧ G (P2 x) ∧ G (P3 x)
/-- the group with r - k ones, degree d -/
def Sg9 (n V : Nat) (G : Nat → Prop) (rel : (Nat → Bool) → Nat → Nat → Prop) (k : Nat) (d : Int) (r : Nat) (γ : gn9) : Prop := (∀ y, n ≤ y → γ.1 y = false) ∧ (∀ g, ¬ G g → γ.2 g = false) ∧ vl9 rel γ ∧ ons9 γ.1 n + k = r ∧ dg9 rel G V n γ = d
section XCHH
variable {n V k r : Nat} {G : Nat → Prop} {P1 P2 P3 : Nat → Nat} {rel : (Nat → Bool) → Nat → Nat → Prop} {d c : Int} {γ δ : gn9} {l : fc9}
theorem cf_mem : ∀ {l : fc9}, cf9 l γ ≠ 0 → ∃ q, q ∈ l ∧ q.2 = γ
  | [], h => absurd rfl h
  | q :: l, h => by
    by_cases e : q.2 = γ
    · exact ⟨q, List.mem_cons_self, e⟩
    · have e1 : cf9 (q :: l) γ = q.1 * id9 γ q.2 + cf9 l γ := rfl
      rw [e1, id_n e, Int.mul_zero, Int.zero_add] at h
      obtain ⟨t, h1, h2⟩ := cf_mem h
      exact ⟨t, List.mem_cons_of_mem _ h1, h2⟩
theorem on_z {s : Nat → Bool} {x : Nat} (hx : x < n) (hs : ∀ y, n ≤ y → s y = false) : ∀ y, n ≤ y → on9 s x y = false := fun y hy => by
  rw [on_o (by omega)]
  exact hs y hy
/-- what one turned crossing makes is a generator of the same degree -/
theorem Dx_ok {x : Nat} (hC : cu9 n V G P1 P2 P3 rel) (hx : x < n) (hγ : Sg9 n V G rel k d r γ) (hs : γ.1 x = false) (h : (c, δ) ∈ Dx9 P1 P2 P3 rel x γ) : Sg9 n V G rel k d (r + 1) δ := by
  obtain ⟨z1, z2, z3, z4, z5⟩ := hγ
  obtain ⟨cC, cG, cV, cP⟩ := hC
  have st := Dx_st h
  have st : δ.1 = on9 γ.1 x := st
  have hE := cC.1 γ.1
  have hF := cC.1 (on9 γ.1 x)
  have o1 := ons_on hs hx
  obtain ⟨gp1, gp2, gp3⟩ := cP x hx
  have zt := on_z hx z1
  have outs : ∀ g, ¬ G g → ∀ a, G a → dcb (rel (on9 γ.1 x) g a) = false := fun g hg a ha => dcb_f.mpr (fun h9 => hg (cG _ zt g a h9 (fun h8 => hg (h8 ▸ ha))).1)
  have dgt : dg9 rel G V n δ = cls9 (rel (on9 γ.1 x)) G V (fun _ => True) - 2 * cls9 (rel (on9 γ.1 x)) G V (fun g => δ.2 g = true) + ons9 (on9 γ.1 x) n := by
    unfold dg9
    rw [st]
  have dgs : cls9 (rel γ.1) G V (fun _ => True) - 2 * cls9 (rel γ.1) G V (fun g => γ.2 g = true) + ons9 γ.1 n = d := z5
  have base : vl9 rel δ → (∀ g, ¬ G g → δ.2 g = false) → (cls9 (rel (on9 γ.1 x)) G V (fun _ => True) : Int) - 2 * cls9 (rel (on9 γ.1 x)) G V (fun g => δ.2 g = true) + 1 = cls9 (rel γ.1) G V (fun _ => True) - 2 * cls9 (rel γ.1) G V (fun g => γ.2 g = true) → Sg9 n V G rel k d (r + 1) δ := fun a1 a2 a3 => by
    refine ⟨fun y hy => ?_, a2, a1, ?_, ?_⟩
    · rw [st]
      exact zt y hy
    · rw [st, o1]
      omega
    · rw [dgt, o1]
      omega
  have vlq : ∀ g k, rel γ.1 g k → γ.2 g = true → γ.2 k = true := fun g k h1 h2 => by rw [← z3 g k h1]; exact h2
  have tt : ∀ (R : Nat → Nat → Prop) g k, R g k → (fun _ : Nat => True) g → (fun _ : Nat => True) k := fun _ _ _ _ _ => trivial
  unfold Dx9 at h
  rcases cC.2 γ.1 x hx hs with ⟨hm, hr⟩ | ⟨hm, hn, hr⟩
  · -- merge
    rw [if_neg (fun h9 => hm (dcb_t.mp h9))] at h
    have L := (cl_mrg (V := V) (Q := fun _ => True) hE hr hm cV gp1 gp3 (tt _) Iff.rfl).1 trivial
    split at h
    · exact absurd h List.not_mem_nil
    · rename_i hb
      have e := List.mem_singleton.mp h
      have e2 : δ.2 = fun g => γ.2 g || ((γ.2 (P1 x) || γ.2 (P3 x)) && dcb (rel (on9 γ.1 x) g (P1 x))) := by
        have := congrArg (fun q => q.2.2) e
        exact this
      have p13 : rel (on9 γ.1 x) (P1 x) (P3 x) := (hr _ _).mpr (adr_ab hE)
      have tr : ∀ g, δ.2 g = true ↔ γ.2 g = true ∨ ((γ.2 (P1 x) = true ∨ γ.2 (P3 x) = true) ∧ rel (on9 γ.1 x) g (P1 x)) := fun g => by
        rw [e2]
        show (γ.2 g || ((γ.2 (P1 x) || γ.2 (P3 x)) && dcb (rel (on9 γ.1 x) g (P1 x)))) = true ↔ _
        rw [Bool.or_eq_true, Bool.and_eq_true, Bool.or_eq_true, dcb_t]
      have val : ∀ g k, rel (on9 γ.1 x) g k → δ.2 g = true → δ.2 k = true := fun g k h1 h2 => by
        rw [tr] at h2 ⊢
        rcases h2 with h2 | ⟨h2, h3⟩
        · rcases (hr g k).mp h1 with k1 | ⟨k1, k2⟩ | ⟨k1, k2⟩
          · exact Or.inl (vlq _ _ k1 h2)
          · exact Or.inr ⟨Or.inl (vlq _ _ k1 h2), hF.2.2 _ _ _ ((hr _ _).mpr (Or.inl k2)) (hF.2.1 _ _ p13)⟩
          · exact Or.inr ⟨Or.inr (vlq _ _ k1 h2), (hr _ _).mpr (Or.inl k2)⟩
        · exact Or.inr ⟨h2, hF.2.2 _ _ _ (hF.2.1 _ _ h1) h3⟩
      refine base (fun g k h1 => ?_) (fun g hg => ?_) ?_
      · rw [st] at h1
        exact bx ⟨val g k h1, val k g (hF.2.1 _ _ h1)⟩
      · rw [e2]
        show (γ.2 g || ((γ.2 (P1 x) || γ.2 (P3 x)) && dcb (rel (on9 γ.1 x) g (P1 x)))) = false
        rw [z2 g hg, outs g hg _ gp1, Bool.and_false]
        rfl
      · -- δ's minus over the old loops
        have up : ∀ g k, rel γ.1 g k → δ.2 g = true → δ.2 k = true := fun g k h1 h2 => val g k ((hr g k).mpr (Or.inl h1)) h2
        have d13 : δ.2 (P1 x) = true ↔ δ.2 (P3 x) = true := ⟨val _ _ p13, val _ _ (hF.2.1 _ _ p13)⟩
        have M := cl_mrg (V := V) (Q := fun g => δ.2 g = true) hE hr hm cV gp1 gp3 up d13
        -- who is in the new loop
        have side : ∀ g, rel (on9 γ.1 x) g (P1 x) ↔ rel γ.1 g (P1 x) ∨ rel γ.1 g (P3 x) := fun g => by
          constructor
          · intro h9
            rcases (hr _ _).mp h9 with k1 | ⟨k1, k2⟩ | ⟨k1, k2⟩
            · exact Or.inl k1
            · exact absurd k2 hm
            · exact Or.inr k1
          · rintro (h9 | h9)
            · exact (hr _ _).mpr (Or.inl h9)
            · exact hF.2.2 _ _ _ ((hr _ _).mpr (Or.inl h9)) (hF.2.1 _ _ p13)
        by_cases c1 : γ.2 (P1 x) = true
        · have c3 : ¬ γ.2 (P3 x) = true := fun h9 => hb ⟨c1, h9⟩
          have A := cl_add (V := V) (Q := fun g => γ.2 g = true) (Q' := fun g => δ.2 g = true) hE cV gp3 vlq c3 (fun g _ => by
            rw [tr g, side g]
            constructor
            · rintro (h9 | ⟨-, h9 | h9⟩)
              · exact Or.inl h9
              · exact Or.inl (vlq _ _ (hE.2.1 _ _ h9) c1)
              · exact Or.inr h9
            · rintro (h9 | h9)
              · exact Or.inl h9
              · exact Or.inr ⟨Or.inl c1, Or.inr h9⟩)
          have B := M.1 ((tr _).mpr (Or.inl c1))
          omega
        · by_cases c3 : γ.2 (P3 x) = true
          · have A := cl_add (V := V) (Q := fun g => γ.2 g = true) (Q' := fun g => δ.2 g = true) hE cV gp1 vlq c1 (fun g _ => by
              rw [tr g, side g]
              constructor
              · rintro (h9 | ⟨-, h9 | h9⟩)
                · exact Or.inl h9
                · exact Or.inr h9
                · exact Or.inl (vlq _ _ (hE.2.1 _ _ h9) c3)
              · rintro (h9 | h9)
                · exact Or.inl h9
                · exact Or.inr ⟨Or.inr c3, Or.inl h9⟩)
            have B := M.1 ((tr _).mpr (Or.inr ⟨Or.inr c3, hF.1 _⟩))
            omega
          · have e3 : cls9 (rel γ.1) G V (fun g => δ.2 g = true) = cls9 (rel γ.1) G V (fun g => γ.2 g = true) := cl_cg (fun g _ => by
              rw [tr g]
              constructor
              · rintro (h9 | ⟨h9 | h9, -⟩)
                · exact h9
                · exact absurd h9 c1
                · exact absurd h9 c3
              · exact Or.inl)
            have B := M.2 (fun h9 => by
              rcases (tr _).mp h9 with h8 | ⟨h8 | h8, -⟩
              · exact c1 h8
              · exact c1 h8
              · exact c3 h8)
            omega
  · -- split
    rw [if_pos (dcb_t.mpr hm)] at h
    have L := (cl_mrg (V := V) (Q := fun _ => True) hF hr hn cV gp1 gp2 (tt _) Iff.rfl).1 trivial
    have up : ∀ g k, rel (on9 γ.1 x) g k → rel γ.1 g k := fun g k h9 => (hr g k).mpr (Or.inl h9)
    have p12 : rel γ.1 (P1 x) (P2 x) := (hr _ _).mpr (adr_ab hF)
    have vlt : ∀ g k, rel (on9 γ.1 x) g k → γ.2 g = true → γ.2 k = true := fun g k h1 h2 => vlq g k (up g k h1) h2
    have d12 : γ.2 (P1 x) = true ↔ γ.2 (P2 x) = true := ⟨vlq _ _ p12, vlq _ _ (hE.2.1 _ _ p12)⟩
    have M := cl_mrg (V := V) (Q := fun g => γ.2 g = true) hF hr hn cV gp1 gp2 vlt d12
    by_cases c1 : γ.2 (P1 x) = true
    · rw [if_pos c1] at h
      have e := List.mem_singleton.mp h
      have e2 : δ.2 = γ.2 := congrArg (fun q => q.2.2) e
      refine base (fun g k h1 => ?_) (fun g hg => ?_) ?_
      · rw [st] at h1
        rw [e2]
        exact z3 g k (up g k h1)
      · rw [e2]
        exact z2 g hg
      · rw [e2]
        have B := M.1 c1
        omega
    · rw [if_neg c1] at h
      have two : ∀ a, G a → ¬ γ.2 a = true → δ.2 = (fun g => γ.2 g || dcb (rel (on9 γ.1 x) g a)) → Sg9 n V G rel k d (r + 1) δ := fun a ga na e2 => by
        have tr : ∀ g, δ.2 g = true ↔ γ.2 g = true ∨ rel (on9 γ.1 x) g a := fun g => by
          rw [e2]
          show (γ.2 g || dcb (rel (on9 γ.1 x) g a)) = true ↔ _
          rw [Bool.or_eq_true, dcb_t]
        have val : ∀ g k, rel (on9 γ.1 x) g k → δ.2 g = true → δ.2 k = true := fun g k h1 h2 => by
          rw [tr] at h2 ⊢
          rcases h2 with h2 | h2
          · exact Or.inl (vlt g k h1 h2)
          · exact Or.inr (hF.2.2 _ _ _ (hF.2.1 _ _ h1) h2)
        refine base (fun g k h1 => ?_) (fun g hg => ?_) ?_
        · rw [st] at h1
          exact bx ⟨val g k h1, val k g (hF.2.1 _ _ h1)⟩
        · rw [e2]
          show (γ.2 g || dcb (rel (on9 γ.1 x) g a)) = false
          rw [z2 g hg, outs g hg _ ga]
          rfl
        · have A := cl_add (V := V) (Q := fun g => γ.2 g = true) (Q' := fun g => δ.2 g = true) hF cV ga vlt na (fun g _ => tr g)
          have B := M.2 c1
          omega
      rcases List.mem_cons.mp h with e | e
      · exact two (P1 x) gp1 c1 (congrArg (fun q => q.2.2) e)
      · exact two (P2 x) gp2 (fun h9 => c1 (d12.mpr h9)) (congrArg (fun q => q.2.2) (List.mem_singleton.mp e))
/-- a generator is a monomial -/
theorem gn_mo (hC : cu9 n V G P1 P2 P3 rel) (z1 : ∀ y, n ≤ y → γ.1 y = false) (z2 : ∀ g, ¬ G g → γ.2 g = false) (z3 : vl9 rel γ) : ∃ T, mo9 rel γ.1 T = [(1, γ)] := by
  have hE := hC.1.1 γ.1
  have hT : ∃ T : List Nat, fe9 rel γ.1 T ∧ ∀ g, (∃ h, h ∈ T ∧ rel γ.1 g h) ↔ γ.2 g = true := by
    have key : ∀ k, ∃ T : List Nat, fe9 rel γ.1 T ∧ (∀ h, h ∈ T → h < k ∧ ld9 (rel γ.1) G h ∧ γ.2 h = true) ∧ ∀ h, h < k → ld9 (rel γ.1) G h → γ.2 h = true → h ∈ T := fun k => by
      induction k with
      | zero => exact ⟨[], List.Pairwise.nil, fun h h9 => absurd h9 List.not_mem_nil, fun h h9 => absurd h9 (Nat.not_lt_zero _)⟩
      | succ k ih =>
        obtain ⟨T, t1, t2, t3⟩ := ih
        by_cases c : ld9 (rel γ.1) G k ∧ γ.2 k = true
        · refine ⟨k :: T, List.pairwise_cons.mpr ⟨fun h hh h9 => ?_, t1⟩, fun h hh => ?_, fun h h1 h2 h3 => ?_⟩
          · have := t2 h hh
            have e := ld_un hE c.1 this.2.1 h9
            omega
          · rcases List.mem_cons.mp hh with e | e
            · rw [e]
              exact ⟨by omega, c⟩
            · have := t2 h e
              exact ⟨by omega, this.2⟩
          · by_cases e : h = k
            · rw [e]
              exact List.mem_cons_self
            · exact List.mem_cons_of_mem _ (t3 h (by omega) h2 h3)
        · refine ⟨T, t1, fun h hh => ?_, fun h h1 h2 h3 => ?_⟩
          · have := t2 h hh
            exact ⟨by omega, this.2⟩
          · by_cases e : h = k
            · rw [e] at h2 h3
              exact absurd ⟨h2, h3⟩ c
            · exact t3 h (by omega) h2 h3
    obtain ⟨T, t1, t2, t3⟩ := key V
    refine ⟨T, t1, fun g => ⟨fun ⟨h, h1, h2⟩ => ?_, fun hg => ?_⟩⟩
    · rw [z3 g h h2]
      exact (t2 h h1).2.2
    · have Gg : G g := by
        by_cases c : G g
        · exact c
        · rw [z2 g c] at hg
          cases hg
      obtain ⟨l, l1, l2, l3⟩ := ld_ex hE g Gg
      exact ⟨l, t3 l (hC.2.2.1 l l1.1) l1 (by rw [z3 l g l2]; exact hg), hE.2.1 _ _ l2⟩
  obtain ⟨T, t1, t2⟩ := hT
  refine ⟨T, ?_⟩
  rw [mo_y t1]
  have e : inm9 rel γ.1 T = γ.2 := funext (fun g => bx (in_t.trans (t2 g)))
  rw [e]
/-- the groups of a cube are a row -/
theorem cu_cg (hC : cu9 n V G P1 P2 P3 rel) : cg9 (Sg9 n V G rel k d) (D9 P1 P2 P3 rel n) := by
  refine ⟨fun r γ hγ δ hδ => ?_, fun r γ hγ δ => ?_⟩
  · obtain ⟨q, q1, q2⟩ := cf_mem hδ
    obtain ⟨y, y1, y2, -, c, y3⟩ := D_st q1
    rw [← q2]
    exact Dx_ok hC y1 hγ y2 y3
  · obtain ⟨T, hT⟩ := gn_mo hC hγ.1 hγ.2.1 hγ.2.2.1
    have e := D_mo hC.1 γ.1 T n (Nat.le_refl n)
    rw [hT] at e
    have e2 : eq9 (D9 P1 P2 P3 rel n γ) (mD9 P1 P2 P3 rel n γ.1 T) := eq_t (eq_s (bd_1 γ)) e
    rw [bd_q e2 δ]
    exact DD_0 hC.1 γ.1 T δ
end XCHH
