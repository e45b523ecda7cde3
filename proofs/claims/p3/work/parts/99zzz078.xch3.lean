section
/-! 99zzzzzzzzzzzzzzzzye.xch3 -/
/-! chain: sums of generators; the cube of states -/
noncomputable def dcb (P : Prop) : Bool := @decide P (Classical.propDecidable P)
theorem dcb_t {P : Prop} : dcb P = true ↔ P := ⟨fun h => @of_decide_eq_true P (Classical.propDecidable P) h, fun h => @decide_eq_true P (Classical.propDecidable P) h⟩
theorem dcb_f {P : Prop} : dcb P = false ↔ ¬ P := ⟨fun h h9 => Bool.noConfusion ((dcb_t.mpr h9).symm.trans h), fun h => @decide_eq_false P (Classical.propDecidable P) h⟩
theorem dcb_c {P Q : Prop} (h : P ↔ Q) : dcb P = dcb Q := by
  by_cases c : P
  · rw [dcb_t.mpr c, dcb_t.mpr (h.mp c)]
  · rw [dcb_f.mpr c, dcb_f.mpr (fun h9 => c (h.mpr h9))]
/-- a generator: a state, and the gaps of the loops with minus -/
abbrev gn9 : Type := (Nat → Bool) × (Nat → Bool)
abbrev fc9 : Type := List (Int × gn9)
def smf9 (φ : gn9 → Int) : fc9 → Int
  | [] => 0
  | q :: l => q.1 * φ q.2 + smf9 φ l
noncomputable def id9 (γ δ : gn9) : Int := if dcb (δ = γ) = true then 1 else 0
noncomputable def cf9 (l : fc9) (γ : gn9) : Int := smf9 (id9 γ) l
def eq9 (l l' : fc9) : Prop := ∀ γ, cf9 l γ = cf9 l' γ
def scf9 (c : Int) (l : fc9) : fc9 := l.map (fun q => (c * q.1, q.2))
def bd9 (f : gn9 → fc9) : fc9 → fc9
  | [] => []
  | q :: l => scf9 q.1 (f q.2) ++ bd9 f l
section XCH5
variable {φ ψ : gn9 → Int} {l l' k k' : fc9} {f : gn9 → fc9}
theorem sm_a : ∀ {l l' : fc9}, smf9 φ (l ++ l') = smf9 φ l + smf9 φ l'
  | [], l' => by
    show smf9 φ l' = 0 + smf9 φ l'
    omega
  | q :: l, l' => by
    show q.1 * φ q.2 + smf9 φ (l ++ l') = q.1 * φ q.2 + smf9 φ l + smf9 φ l'
    rw [sm_a]
    omega
theorem sm_sc (c : Int) : ∀ {l : fc9}, smf9 φ (scf9 c l) = c * smf9 φ l
  | [] => (Int.mul_zero c).symm
  | q :: l => by
    show c * q.1 * φ q.2 + smf9 φ (scf9 c l) = c * (q.1 * φ q.2 + smf9 φ l)
    rw [sm_sc c, Int.mul_add, Int.mul_assoc]
theorem sm_bd : ∀ {l : fc9}, smf9 φ (bd9 f l) = smf9 (fun γ => smf9 φ (f γ)) l
  | [] => rfl
  | q :: l => by
    show smf9 φ (scf9 q.1 (f q.2) ++ bd9 f l) = q.1 * smf9 φ (f q.2) + smf9 (fun γ => smf9 φ (f γ)) l
    rw [sm_a, sm_sc, sm_bd]
theorem id_y (γ : gn9) : id9 γ γ = 1 := if_pos (dcb_t.mpr rfl)
theorem id_n {γ δ : gn9} (h : δ ≠ γ) : id9 γ δ = 0 := if_neg (fun h9 => h (dcb_t.mp h9))
/-- the rest without γ -/
noncomputable def wo9 (γ : gn9) : fc9 → fc9
  | [] => []
  | q :: l => if dcb (q.2 = γ) = true then wo9 γ l else q :: wo9 γ l
theorem wo_l (γ : gn9) : ∀ l : fc9, (wo9 γ l).length ≤ l.length
  | [] => Nat.le_refl 0
  | q :: l => by
    have ih := wo_l γ l
    show (if dcb (q.2 = γ) = true then wo9 γ l else q :: wo9 γ l).length ≤ l.length + 1
    split
    · omega
    · rw [List.length_cons]
      omega
theorem wo_s (γ : gn9) : ∀ l : fc9, smf9 φ l = φ γ * cf9 l γ + smf9 φ (wo9 γ l)
  | [] => by
    show (0 : Int) = φ γ * 0 + 0
    rw [Int.mul_zero]
    rfl
  | q :: l => by
    have ih := wo_s γ l
    show q.1 * φ q.2 + smf9 φ l = φ γ * (q.1 * id9 γ q.2 + cf9 l γ) + smf9 φ (if dcb (q.2 = γ) = true then wo9 γ l else q :: wo9 γ l)
    by_cases c : q.2 = γ
    · rw [if_pos (dcb_t.mpr c), c, id_y, Int.mul_one, Int.mul_add, ih, Int.mul_comm (φ γ) q.1]
      omega
    · rw [if_neg (fun h9 => c (dcb_t.mp h9)), id_n c, Int.mul_zero, Int.zero_add, ih]
      show _ = _ + (q.1 * φ q.2 + smf9 φ (wo9 γ l))
      omega
theorem wo_c {γ δ : gn9} (l : fc9) : cf9 (wo9 γ l) δ = if dcb (δ = γ) = true then 0 else cf9 l δ := by
  have h := wo_s (φ := id9 δ) γ l
  by_cases c : δ = γ
  · rw [if_pos (dcb_t.mpr c)]
    rw [← c, id_y, Int.one_mul] at h
    rw [← c]
    have h : cf9 l δ = cf9 l δ + cf9 (wo9 δ l) δ := h
    omega
  · rw [if_neg (fun h9 => c (dcb_t.mp h9))]
    rw [id_n (fun h9 => c h9.symm), Int.zero_mul, Int.zero_add] at h
    exact h.symm
theorem sm_0 : ∀ (n : Nat) (l : fc9), l.length ≤ n → (∀ γ, cf9 l γ = 0) → smf9 φ l = 0
  | _, [], _, _ => rfl
  | 0, q :: l, h, _ => absurd h (by rw [List.length_cons]; omega)
  | n + 1, q :: l, h, hz => by
    rw [wo_s (φ := φ) q.2 (q :: l), hz, Int.mul_zero, Int.zero_add]
    refine sm_0 n _ ?_ (fun γ => ?_)
    · have h1 := wo_l q.2 l
      show (if dcb (q.2 = q.2) = true then wo9 q.2 l else q :: wo9 q.2 l).length ≤ n
      rw [if_pos (dcb_t.mpr rfl)]
      rw [List.length_cons] at h
      omega
    · rw [wo_c, hz]
      split
      · rfl
      · rfl
theorem sm_q (h : eq9 l l') : smf9 φ l = smf9 φ l' := by
  have h1 := sm_0 (φ := φ) _ (l ++ scf9 (-1) l') (Nat.le_refl _) (fun γ => by
    show smf9 (id9 γ) (l ++ scf9 (-1) l') = 0
    rw [sm_a, sm_sc]
    have h2 : smf9 (id9 γ) l = smf9 (id9 γ) l' := h γ
    rw [h2]
    omega)
  rw [sm_a, sm_sc] at h1
  omega
theorem cf_a (γ : gn9) : cf9 (l ++ l') γ = cf9 l γ + cf9 l' γ := sm_a
theorem cf_sc (c : Int) (γ : gn9) : cf9 (scf9 c l) γ = c * cf9 l γ := sm_sc c
theorem eq_r : eq9 l l := fun _ => rfl
theorem eq_s (h : eq9 l l') : eq9 l' l := fun γ => (h γ).symm
theorem eq_t (h : eq9 l l') (h2 : eq9 l' k) : eq9 l k := fun γ => (h γ).trans (h2 γ)
theorem eq_a (h : eq9 l l') (h2 : eq9 k k') : eq9 (l ++ k) (l' ++ k') := fun γ => by rw [cf_a, cf_a, h γ, h2 γ]
theorem eq_cm : eq9 (l ++ k) (k ++ l) := fun γ => by rw [cf_a, cf_a]; omega
theorem bd_q (h : eq9 l l') : eq9 (bd9 f l) (bd9 f l') := fun γ => by
  show smf9 (id9 γ) (bd9 f l) = smf9 (id9 γ) (bd9 f l')
  rw [sm_bd, sm_bd]
  exact sm_q h
theorem bd_a (h : bd9 f (l ++ k) = bd9 f (l ++ k)) : eq9 (bd9 f (l ++ k)) (bd9 f l ++ bd9 f k) := fun γ => by
  rw [cf_a]
  show smf9 (id9 γ) (bd9 f (l ++ k)) = smf9 (id9 γ) (bd9 f l) + smf9 (id9 γ) (bd9 f k)
  rw [sm_bd, sm_bd, sm_bd, sm_a]
theorem bd_1 (γ : gn9) : eq9 (bd9 f [(1, γ)]) (f γ) := fun δ => by
  show smf9 (id9 δ) (bd9 f [(1, γ)]) = smf9 (id9 δ) (f γ)
  rw [sm_bd]
  show 1 * smf9 (id9 δ) (f γ) + 0 = _
  omega
end XCH5
/-- two classes made one -/
def adr (R : Nat → Nat → Prop) (a b g h : Nat) : Prop := R g h ∨ R g a ∧ R h b ∨ R g b ∧ R h a
def on9 (s : Nat → Bool) (x : Nat) : Nat → Bool := fun y => if y = x then true else s y
def eqv9 (R : Nat → Nat → Prop) : Prop := (∀ g, R g g) ∧ (∀ g h, R g h → R h g) ∧ ∀ g h k, R g h → R h k → R g k
section XCH6
variable {R Q : Nat → Nat → Prop} {a b c d g h : Nat}
theorem adr_ab (hR : eqv9 R) : adr R a b a b := Or.inr (Or.inl ⟨hR.1 a, hR.1 b⟩)
/-- nothing lies between a relation and the one with two classes made one -/
theorem adr_bt (hR : eqv9 R) (hQ : eqv9 Q) (h1 : ∀ g h, R g h → Q g h) (h2 : ∀ g h, Q g h → adr R a b g h) (hc : Q c d) (hn : ¬ R c d) : ∀ g h, adr R a b g h → Q g h := by
  have hab : Q a b := by
    rcases h2 c d hc with h9 | ⟨h8, h9⟩ | ⟨h8, h9⟩
    · exact absurd h9 hn
    · exact hQ.2.2 _ _ _ (hQ.2.1 _ _ (h1 _ _ h8)) (hQ.2.2 _ _ _ hc (h1 _ _ h9))
    · exact hQ.2.2 _ _ _ (hQ.2.1 _ _ (h1 _ _ h9)) (hQ.2.2 _ _ _ (hQ.2.1 _ _ hc) (h1 _ _ h8))
  intro g h h9
  rcases h9 with h9 | ⟨h8, h9⟩ | ⟨h8, h9⟩
  · exact h1 _ _ h9
  · exact hQ.2.2 _ _ _ (h1 _ _ h8) (hQ.2.2 _ _ _ hab (hQ.2.1 _ _ (h1 _ _ h9)))
  · exact hQ.2.2 _ _ _ (h1 _ _ h8) (hQ.2.2 _ _ _ (hQ.2.1 _ _ hab) (hQ.2.1 _ _ (h1 _ _ h9)))
end XCH6
/-- a cube of partitions of the gaps -/
def cub9 (n : Nat) (P1 P2 P3 : Nat → Nat) (rel : (Nat → Bool) → Nat → Nat → Prop) : Prop := (∀ s, eqv9 (rel s)) ∧ ∀ s x, x < n → s x = false → (¬ rel s (P1 x) (P3 x) ∧ ∀ g h, rel (on9 s x) g h ↔ adr (rel s) (P1 x) (P3 x) g h) ∨ (rel s (P1 x) (P3 x) ∧ ¬ rel (on9 s x) (P1 x) (P2 x) ∧ ∀ g h, rel s g h ↔ adr (rel (on9 s x)) (P1 x) (P2 x) g h)
noncomputable def inm9 (rel : (Nat → Bool) → Nat → Nat → Prop) (s : Nat → Bool) (T : List Nat) : Nat → Bool := fun g => dcb (∃ h, h ∈ T ∧ rel s g h)
def fe9 (rel : (Nat → Bool) → Nat → Nat → Prop) (s : Nat → Bool) (T : List Nat) : Prop := T.Pairwise (fun g h => ¬ rel s g h)
noncomputable def mo9 (rel : (Nat → Bool) → Nat → Nat → Prop) (s : Nat → Bool) (T : List Nat) : fc9 := if dcb (fe9 rel s T) = true then [(1, (s, inm9 rel s T))] else []
/-- one crossing turned, on a generator -/
noncomputable def Dx9 (P1 P2 P3 : Nat → Nat) (rel : (Nat → Bool) → Nat → Nat → Prop) (x : Nat) (γ : gn9) : fc9 := if dcb (rel γ.1 (P1 x) (P3 x)) = true then (if γ.2 (P1 x) = true then [(1, (on9 γ.1 x, γ.2))] else [(1, (on9 γ.1 x, fun g => γ.2 g || dcb (rel (on9 γ.1 x) g (P1 x)))), (1, (on9 γ.1 x, fun g => γ.2 g || dcb (rel (on9 γ.1 x) g (P2 x))))]) else (if γ.2 (P1 x) = true ∧ γ.2 (P3 x) = true then [] else [(1, (on9 γ.1 x, fun g => γ.2 g || ((γ.2 (P1 x) || γ.2 (P3 x)) && dcb (rel (on9 γ.1 x) g (P1 x)))))])
noncomputable def mx9 (P1 P2 P3 : Nat → Nat) (rel : (Nat → Bool) → Nat → Nat → Prop) (x : Nat) (s : Nat → Bool) (T : List Nat) : fc9 := if dcb (rel s (P1 x) (P3 x)) = true then mo9 rel (on9 s x) (P1 x :: T) ++ mo9 rel (on9 s x) (P2 x :: T) else mo9 rel (on9 s x) T
section XCH7
variable {n x : Nat} {P1 P2 P3 : Nat → Nat} {rel : (Nat → Bool) → Nat → Nat → Prop} {s : Nat → Bool} {T : List Nat}
theorem mo_y (h : fe9 rel s T) : mo9 rel s T = [(1, (s, inm9 rel s T))] := if_pos (dcb_t.mpr h)
theorem mo_n9 (h : ¬ fe9 rel s T) : mo9 rel s T = [] := if_neg (fun h9 => h (dcb_t.mp h9))
theorem in_t {g : Nat} : inm9 rel s T g = true ↔ ∃ h, h ∈ T ∧ rel s g h := dcb_t
theorem bx {a b : Bool} (h : a = true ↔ b = true) : a = b := by
  cases a <;> cases b <;> simp at h <;> rfl
theorem fe_sub {s t : Nat → Bool} (h : ∀ g k, rel t g k → rel s g k) (hf : fe9 rel s T) : fe9 rel t T := List.Pairwise.imp (fun {a b} h1 h2 => h1 (h a b h2)) hf
/-- one of two in one class -/
theorem fe_one (hE : eqv9 (rel s)) : ∀ {T : List Nat} {g h : Nat}, fe9 rel s T → g ∈ T → h ∈ T → rel s g h → g = h
  | [], g, h, _, hg, _, _ => absurd hg List.not_mem_nil
  | t :: T, g, h, hf, hg, hh, hr => by
    obtain ⟨f1, f2⟩ := List.pairwise_cons.mp hf
    rcases List.mem_cons.mp hg with e | e
    · rcases List.mem_cons.mp hh with e9 | e9
      · rw [e, e9]
      · rw [e] at hr
        exact absurd hr (f1 h e9)
    · rcases List.mem_cons.mp hh with e9 | e9
      · rw [e9] at hr
        exact absurd (hE.2.1 _ _ hr) (f1 g e)
      · exact fe_one hE f2 e e9 hr
theorem dx_mo (hC : cub9 n P1 P2 P3 rel) (hx : x < n) (hs : s x = false) (T : List Nat) : eq9 (bd9 (Dx9 P1 P2 P3 rel x) (mo9 rel s T)) (mx9 P1 P2 P3 rel x s T) := by
  have hE := hC.1 s
  have hF := hC.1 (on9 s x)
  rcases hC.2 s x hx hs with ⟨hm, hr⟩ | ⟨hm, hn, hr⟩
  · -- two loops become one
    have e1 : mx9 P1 P2 P3 rel x s T = mo9 rel (on9 s x) T := if_neg (fun h9 => hm (dcb_t.mp h9))
    rw [e1]
    by_cases hf : fe9 rel s T
    · rw [mo_y hf]
      refine eq_t (bd_1 _) ?_
      have e2 : Dx9 P1 P2 P3 rel x (s, inm9 rel s T) = (if inm9 rel s T (P1 x) = true ∧ inm9 rel s T (P3 x) = true then [] else [(1, (on9 s x, fun g => inm9 rel s T g || ((inm9 rel s T (P1 x) || inm9 rel s T (P3 x)) && dcb (rel (on9 s x) g (P1 x)))))]) := if_neg (fun h9 => hm (dcb_t.mp h9))
      rw [e2]
      by_cases c : inm9 rel s T (P1 x) = true ∧ inm9 rel s T (P3 x) = true
      · rw [if_pos c]
        obtain ⟨h1, t1, r1⟩ := in_t.mp c.1
        obtain ⟨h3, t3, r3⟩ := in_t.mp c.2
        rw [mo_n9 (fun h9 => ?_)]
        · exact eq_r
        · have e9 := fe_one hF h9 t1 t3 ((hr _ _).mpr (Or.inr (Or.inl ⟨hE.2.1 _ _ r1, hE.2.1 _ _ r3⟩)))
          rw [← e9] at r3
          exact hm (hE.2.2 _ _ _ r1 (hE.2.1 _ _ r3))
      · rw [if_neg c]
        have hft : fe9 rel (on9 s x) T := by
          refine List.Pairwise.imp_of_mem (fun {a b} ha hb h1 h2 => ?_) hf
          rcases (hr a b).mp h2 with h3 | ⟨h3, h4⟩ | ⟨h3, h4⟩
          · exact h1 h3
          · exact c ⟨in_t.mpr ⟨a, ha, hE.2.1 _ _ h3⟩, in_t.mpr ⟨b, hb, hE.2.1 _ _ h4⟩⟩
          · exact c ⟨in_t.mpr ⟨b, hb, hE.2.1 _ _ h4⟩, in_t.mpr ⟨a, ha, hE.2.1 _ _ h3⟩⟩
        rw [mo_y hft]
        have e3 : (fun g => inm9 rel s T g || ((inm9 rel s T (P1 x) || inm9 rel s T (P3 x)) && dcb (rel (on9 s x) g (P1 x)))) = inm9 rel (on9 s x) T := funext (fun g => bx (by
          rw [in_t, Bool.or_eq_true, Bool.and_eq_true, Bool.or_eq_true, in_t, in_t, in_t, dcb_t]
          have p13 : rel (on9 s x) (P1 x) (P3 x) := (hr _ _).mpr (adr_ab hE)
          constructor
          · rintro (⟨h, t, r⟩ | ⟨⟨h, t, r⟩ | ⟨h, t, r⟩, q⟩)
            · exact ⟨h, t, (hr _ _).mpr (Or.inl r)⟩
            · exact ⟨h, t, hF.2.2 _ _ _ q ((hr _ _).mpr (Or.inl r))⟩
            · exact ⟨h, t, hF.2.2 _ _ _ q (hF.2.2 _ _ _ p13 ((hr _ _).mpr (Or.inl r)))⟩
          · rintro ⟨h, t, r⟩
            rcases (hr g h).mp r with h3 | ⟨h3, h4⟩ | ⟨h3, h4⟩
            · exact Or.inl ⟨h, t, h3⟩
            · exact Or.inr ⟨Or.inr ⟨h, t, hE.2.1 _ _ h4⟩, (hr _ _).mpr (Or.inl h3)⟩
            · exact Or.inr ⟨Or.inl ⟨h, t, hE.2.1 _ _ h4⟩, hF.2.2 _ _ _ ((hr _ _).mpr (Or.inl h3)) (hF.2.1 _ _ p13)⟩))
        rw [e3]
        exact eq_r
    · rw [mo_n9 hf, mo_n9 (fun h9 => hf (fe_sub (fun g k h8 => (hr g k).mpr (Or.inl h8)) h9))]
      exact eq_r
  · -- one loop becomes two
    have e1 : mx9 P1 P2 P3 rel x s T = mo9 rel (on9 s x) (P1 x :: T) ++ mo9 rel (on9 s x) (P2 x :: T) := if_pos (dcb_t.mpr hm)
    have up : ∀ g k, rel (on9 s x) g k → rel s g k := fun g k h9 => (hr g k).mpr (Or.inl h9)
    have p12 : rel s (P1 x) (P2 x) := (hr _ _).mpr (adr_ab hF)
    rw [e1]
    -- who is in the loop that is split
    have side : ∀ g, rel s g (P1 x) → rel (on9 s x) g (P1 x) ∨ rel (on9 s x) g (P2 x) := fun g h9 => by
      rcases (hr _ _).mp h9 with h3 | ⟨h3, h4⟩ | ⟨h3, h4⟩
      · exact Or.inl h3
      · exact Or.inl h3
      · exact Or.inr h3
    by_cases hf : fe9 rel s T
    · have hft : fe9 rel (on9 s x) T := fe_sub up hf
      rw [mo_y hf]
      refine eq_t (bd_1 _) ?_
      have e2 : Dx9 P1 P2 P3 rel x (s, inm9 rel s T) = (if inm9 rel s T (P1 x) = true then [(1, (on9 s x, inm9 rel s T))] else [(1, (on9 s x, fun g => inm9 rel s T g || dcb (rel (on9 s x) g (P1 x)))), (1, (on9 s x, fun g => inm9 rel s T g || dcb (rel (on9 s x) g (P2 x))))]) := if_pos (dcb_t.mpr hm)
      rw [e2]
      by_cases c : inm9 rel s T (P1 x) = true
      · rw [if_pos c]
        obtain ⟨h0, t0, r0⟩ := in_t.mp c
        -- with a: the end that h0 lies at, b: the other
        have one : ∀ a b, (a = P1 x ∧ b = P2 x ∨ a = P2 x ∧ b = P1 x) → rel (on9 s x) h0 a → mo9 rel (on9 s x) (a :: T) = [] ∧ mo9 rel (on9 s x) (b :: T) = [(1, (on9 s x, inm9 rel s T))] := fun a b hab h9 => by
          have nab : ¬ rel (on9 s x) a b := by
            rcases hab with ⟨e, e'⟩ | ⟨e, e'⟩
            · rw [e, e']
              exact hn
            · rw [e, e']
              exact fun h8 => hn (hF.2.1 _ _ h8)
          have ra : rel s a (P1 x) := by
            rcases hab with ⟨e, -⟩ | ⟨e, -⟩
            · rw [e]
              exact hE.1 _
            · rw [e]
              exact hE.2.1 _ _ p12
          have rb : rel s b (P1 x) := by
            rcases hab with ⟨-, e⟩ | ⟨-, e⟩
            · rw [e]
              exact hE.2.1 _ _ p12
            · rw [e]
              exact hE.1 _
          have sd : ∀ g, rel s g (P1 x) → rel (on9 s x) g a ∨ rel (on9 s x) g b := fun g h8 => by
            rcases hab with ⟨e, e'⟩ | ⟨e, e'⟩
            · rw [e, e']
              exact side g h8
            · rw [e, e']
              exact (side g h8).symm
          have fb : fe9 rel (on9 s x) (b :: T) := List.pairwise_cons.mpr ⟨fun h hh h8 => by
            have h7 : h = h0 := fe_one hE hf hh t0 (hE.2.2 _ _ _ (up _ _ (hF.2.1 _ _ h8)) (hE.2.2 _ _ _ rb r0))
            rw [h7] at h8
            exact nab (hF.2.1 _ _ (hF.2.2 _ _ _ h8 h9)), hft⟩
          refine ⟨mo_n9 (fun h8 => (List.pairwise_cons.mp h8).1 h0 t0 (hF.2.1 _ _ h9)), ?_⟩
          rw [mo_y fb]
          have e3 : inm9 rel (on9 s x) (b :: T) = inm9 rel s T := funext (fun g => bx (by
            rw [in_t, in_t]
            constructor
            · rintro ⟨h, t, r⟩
              rcases List.mem_cons.mp t with e | e
              · rw [e] at r
                exact ⟨h0, t0, hE.2.2 _ _ _ (up _ _ r) (hE.2.2 _ _ _ rb r0)⟩
              · exact ⟨h, e, up _ _ r⟩
            · rintro ⟨h, t, r⟩
              by_cases ga : rel s g (P1 x)
              · rcases sd g ga with h7 | h7
                · exact ⟨h0, List.mem_cons_of_mem _ t0, hF.2.2 _ _ _ h7 (hF.2.1 _ _ h9)⟩
                · exact ⟨b, List.mem_cons_self, h7⟩
              · rcases (hr g h).mp r with h3 | ⟨h3, h4⟩ | ⟨h3, h4⟩
                · exact ⟨h, List.mem_cons_of_mem _ t, h3⟩
                · exact absurd (up _ _ h3) ga
                · exact absurd (hE.2.2 _ _ _ (up _ _ h3) (hE.2.1 _ _ p12)) ga))
          rw [e3]
        rcases side h0 (hE.2.1 _ _ r0) with h9 | h9
        · obtain ⟨q1, q2⟩ := one (P1 x) (P2 x) (Or.inl ⟨rfl, rfl⟩) h9
          rw [q1, q2]
          exact eq_r
        · obtain ⟨q1, q2⟩ := one (P2 x) (P1 x) (Or.inr ⟨rfl, rfl⟩) h9
          rw [q1, q2, List.append_nil]
          exact eq_r
      · rw [if_neg c]
        have cn : ¬ ∃ h, h ∈ T ∧ rel s (P1 x) h := fun h9 => c (in_t.mpr h9)
        have one : ∀ a, rel s a (P1 x) → mo9 rel (on9 s x) (a :: T) = [(1, (on9 s x, fun g => inm9 rel s T g || dcb (rel (on9 s x) g a)))] := fun a ha => by
          have fa : fe9 rel (on9 s x) (a :: T) := List.pairwise_cons.mpr ⟨fun h hh h8 => cn ⟨h, hh, hE.2.2 _ _ _ (hE.2.1 _ _ ha) (up _ _ h8)⟩, hft⟩
          rw [mo_y fa]
          have e3 : inm9 rel (on9 s x) (a :: T) = fun g => inm9 rel s T g || dcb (rel (on9 s x) g a) := funext (fun g => bx (by
            rw [in_t, Bool.or_eq_true, in_t, dcb_t]
            constructor
            · rintro ⟨h, t, r⟩
              rcases List.mem_cons.mp t with e | e
              · rw [e] at r
                exact Or.inr r
              · exact Or.inl ⟨h, e, up _ _ r⟩
            · rintro (⟨h, t, r⟩ | r)
              · rcases (hr g h).mp r with h3 | ⟨h3, h4⟩ | ⟨h3, h4⟩
                · exact ⟨h, List.mem_cons_of_mem _ t, h3⟩
                · exact absurd ⟨h, t, hE.2.2 _ _ _ p12 (hE.2.1 _ _ (up _ _ h4))⟩ cn
                · exact absurd ⟨h, t, hE.2.1 _ _ (up _ _ h4)⟩ cn
              · exact ⟨a, List.mem_cons_self, r⟩))
          rw [e3]
        rw [one (P1 x) (hE.1 _), one (P2 x) (hE.2.1 _ _ p12)]
        exact eq_r
    · have z : ∀ a b, (a = P1 x ∧ b = P2 x ∨ a = P2 x ∧ b = P1 x) → ¬ fe9 rel (on9 s x) (a :: T) := fun a b hab h9 => by
        obtain ⟨f1, f2⟩ := List.pairwise_cons.mp h9
        refine hf (List.Pairwise.imp_of_mem (fun {g h} hg hh h1 h2 => ?_) f2)
        rcases (hr g h).mp h2 with h3 | ⟨h3, h4⟩ | ⟨h3, h4⟩
        · exact h1 h3
        · rcases hab with ⟨e, -⟩ | ⟨e, -⟩
          · exact f1 g hg (by rw [e]; exact hF.2.1 _ _ h3)
          · exact f1 h hh (by rw [e]; exact hF.2.1 _ _ h4)
        · rcases hab with ⟨e, -⟩ | ⟨e, -⟩
          · exact f1 h hh (by rw [e]; exact hF.2.1 _ _ h4)
          · exact f1 g hg (by rw [e]; exact hF.2.1 _ _ h3)
      rw [mo_n9 hf, mo_n9 (z (P1 x) (P2 x) (Or.inl ⟨rfl, rfl⟩)), mo_n9 (z (P2 x) (P1 x) (Or.inr ⟨rfl, rfl⟩))]
      exact eq_r
end XCH7
end
section
/-! 99zzzzzzzzzzzzzzzzyf.xch4 -/
/-! chain: D of D is 0 -/
def par9 (s : Nat → Bool) : Nat → Int
  | 0 => 1
  | x + 1 => if s x = true then -par9 s x else par9 s x
def sN9 (f : Nat → Int) : Nat → Int
  | 0 => 0
  | n + 1 => sN9 f n + f n
noncomputable def D9 (P1 P2 P3 : Nat → Nat) (rel : (Nat → Bool) → Nat → Nat → Prop) : Nat → gn9 → fc9
  | 0, _ => []
  | n + 1, γ => D9 P1 P2 P3 rel n γ ++ (if γ.1 n = true then [] else scf9 (par9 γ.1 n) (Dx9 P1 P2 P3 rel n γ))
noncomputable def mD9 (P1 P2 P3 : Nat → Nat) (rel : (Nat → Bool) → Nat → Nat → Prop) : Nat → (Nat → Bool) → List Nat → fc9
  | 0, _, _ => []
  | n + 1, s, T => mD9 P1 P2 P3 rel n s T ++ (if s n = true then [] else scf9 (par9 s n) (mx9 P1 P2 P3 rel n s T))
section XCH8
variable {n x y : Nat} {P1 P2 P3 : Nat → Nat} {rel : (Nat → Bool) → Nat → Nat → Prop} {s : Nat → Bool} {T : List Nat} {φ : gn9 → Int}
theorem sN_cg {f g : Nat → Int} : ∀ {n : Nat}, (∀ i, i < n → f i = g i) → sN9 f n = sN9 g n
  | 0, _ => rfl
  | n + 1, h => by
    show sN9 f n + f n = sN9 g n + g n
    rw [sN_cg (n := n) (fun i hi => h i (by omega)), h n (by omega)]
theorem sN_a {f g : Nat → Int} : ∀ {n : Nat}, sN9 (fun i => f i + g i) n = sN9 f n + sN9 g n
  | 0 => rfl
  | n + 1 => by
    show sN9 (fun i => f i + g i) n + (f n + g n) = sN9 f n + f n + (sN9 g n + g n)
    rw [sN_a]
    omega
theorem sN_0 : ∀ {n : Nat}, sN9 (fun _ => 0) n = 0
  | 0 => rfl
  | n + 1 => by
    show sN9 (fun _ => 0) n + 0 = 0
    rw [sN_0]
    rfl
theorem sN_an {a : Nat → Nat → Int} (h : ∀ x y, a x y = -a y x) : ∀ n, sN9 (fun x => sN9 (fun y => a x y) n) n = 0
  | 0 => rfl
  | n + 1 => by
    have ih := sN_an h n
    show sN9 (fun x => sN9 (fun y => a x y) n + a x n) n + (sN9 (fun y => a n y) n + a n n) = 0
    rw [sN_a, ih]
    have e : sN9 (fun x => a x n) n + sN9 (fun y => a n y) n = 0 := by
      rw [← sN_a]
      have : (fun i => a i n + a n i) = fun _ => (0 : Int) := funext (fun i => by
        have := h i n
        omega)
      rw [this]
      exact sN_0
    have := h n n
    omega
theorem smf_mD (φ : gn9 → Int) : ∀ n, smf9 φ (mD9 P1 P2 P3 rel n s T) = sN9 (fun x => if s x = true then 0 else par9 s x * smf9 φ (mx9 P1 P2 P3 rel x s T)) n
  | 0 => rfl
  | n + 1 => by
    show smf9 φ (mD9 P1 P2 P3 rel n s T ++ (if s n = true then [] else scf9 (par9 s n) (mx9 P1 P2 P3 rel n s T))) = sN9 _ n + (if s n = true then 0 else par9 s n * smf9 φ (mx9 P1 P2 P3 rel n s T))
    rw [sm_a, smf_mD φ n]
    split
    · rfl
    · rw [sm_sc]
theorem on_c (s : Nat → Bool) (x y : Nat) : on9 (on9 s x) y = on9 (on9 s y) x := funext (fun z => by
  unfold on9
  by_cases h1 : z = x
  · by_cases h2 : z = y
    · rw [if_pos h2, if_pos h1]
    · rw [if_neg h2, if_pos h1, if_pos h1]
  · by_cases h2 : z = y
    · rw [if_pos h2, if_neg h1, if_pos h2]
    · rw [if_neg h2, if_neg h1, if_neg h1, if_neg h2])
theorem on_x : on9 s x x = true := if_pos rfl
theorem on_o (h : y ≠ x) : on9 s x y = s y := if_neg h
theorem par_lo : ∀ {y : Nat}, y ≤ x → par9 (on9 s x) y = par9 s y
  | 0, _ => rfl
  | y + 1, h => by
    show (if on9 s x y = true then -par9 (on9 s x) y else par9 (on9 s x) y) = if s y = true then -par9 s y else par9 s y
    rw [on_o (by omega), par_lo (by omega)]
theorem par_hi (hs : s x = false) : ∀ {y : Nat}, x < y → par9 (on9 s x) y = -par9 s y
  | 0, h => absurd h (Nat.not_lt_zero _)
  | y + 1, h => by
    show (if on9 s x y = true then -par9 (on9 s x) y else par9 (on9 s x) y) = -(if s y = true then -par9 s y else par9 s y)
    by_cases e : y = x
    · rw [e, on_x, if_pos rfl, par_lo (Nat.le_refl x), hs, if_neg (by decide)]
    · rw [on_o e, par_hi hs (by omega)]
      split
      · rfl
      · rfl
theorem par_an (hx : s x = false) (hy : s y = false) (h : x ≠ y) : par9 s x * par9 (on9 s x) y = -(par9 s y * par9 (on9 s y) x) := by
  rcases Nat.lt_or_gt_of_ne h with h1 | h1
  · rw [par_hi hx h1, par_lo (Nat.le_of_lt h1), Int.mul_neg, Int.mul_comm]
  · rw [par_lo (Nat.le_of_lt h1), par_hi hy h1, Int.mul_neg, Int.neg_neg, Int.mul_comm]
theorem mo_sw {a b : Nat} (hE : eqv9 (rel s)) : mo9 rel s (a :: b :: T) = mo9 rel s (b :: a :: T) := by
  have e1 : ∀ a b, fe9 rel s (a :: b :: T) → fe9 rel s (b :: a :: T) := fun a b h => by
    obtain ⟨h1, h2⟩ := List.pairwise_cons.mp h
    obtain ⟨h3, h4⟩ := List.pairwise_cons.mp h2
    refine List.pairwise_cons.mpr ⟨fun k hk => ?_, List.pairwise_cons.mpr ⟨fun k hk => h1 k (List.mem_cons_of_mem _ hk), h4⟩⟩
    rcases List.mem_cons.mp hk with e | e
    · rw [e]
      exact fun h9 => h1 b List.mem_cons_self (hE.2.1 _ _ h9)
    · exact h3 k e
  by_cases c : fe9 rel s (a :: b :: T)
  · rw [mo_y c, mo_y (e1 a b c)]
    have : inm9 rel s (a :: b :: T) = inm9 rel s (b :: a :: T) := funext (fun g => bx (by
      rw [in_t, in_t]
      constructor
      · rintro ⟨h, t, r⟩
        refine ⟨h, ?_, r⟩
        rcases List.mem_cons.mp t with e | e
        · rw [e]
          exact List.mem_cons_of_mem _ List.mem_cons_self
        · rcases List.mem_cons.mp e with e | e
          · rw [e]
            exact List.mem_cons_self
          · exact List.mem_cons_of_mem _ (List.mem_cons_of_mem _ e)
      · rintro ⟨h, t, r⟩
        refine ⟨h, ?_, r⟩
        rcases List.mem_cons.mp t with e | e
        · rw [e]
          exact List.mem_cons_of_mem _ List.mem_cons_self
        · rcases List.mem_cons.mp e with e | e
          · rw [e]
            exact List.mem_cons_self
          · exact List.mem_cons_of_mem _ (List.mem_cons_of_mem _ e)))
    rw [this]
  · rw [mo_n9 c, mo_n9 (fun h9 => c (e1 b a h9))]
theorem mo_rp {a b : Nat} (hE : eqv9 (rel s)) (h : rel s a b) : mo9 rel s (a :: T) = mo9 rel s (b :: T) := by
  have e1 : ∀ a b, rel s a b → fe9 rel s (a :: T) → fe9 rel s (b :: T) := fun a b h h9 => by
    obtain ⟨h1, h2⟩ := List.pairwise_cons.mp h9
    exact List.pairwise_cons.mpr ⟨fun k hk h8 => h1 k hk (hE.2.2 _ _ _ h h8), h2⟩
  have e2 : ∀ a b g, rel s a b → (∃ k, k ∈ a :: T ∧ rel s g k) → ∃ k, k ∈ b :: T ∧ rel s g k := fun a b g h ⟨k, t, r⟩ => by
    rcases List.mem_cons.mp t with e | e
    · rw [e] at r
      exact ⟨b, List.mem_cons_self, hE.2.2 _ _ _ r h⟩
    · exact ⟨k, List.mem_cons_of_mem _ e, r⟩
  by_cases c : fe9 rel s (a :: T)
  · rw [mo_y c, mo_y (e1 a b h c)]
    have : inm9 rel s (a :: T) = inm9 rel s (b :: T) := funext (fun g => bx (by
      rw [in_t, in_t]
      exact ⟨e2 a b g h, e2 b a g (hE.2.1 _ _ h)⟩))
    rw [this]
  · rw [mo_n9 c, mo_n9 (fun h9 => c (e1 b a (hE.2.1 _ _ h) h9))]
/-- two crossings turned, x first -/
noncomputable def dd9 (P1 P2 P3 : Nat → Nat) (rel : (Nat → Bool) → Nat → Nat → Prop) (x y : Nat) (s : Nat → Bool) (T : List Nat) : fc9 := if dcb (rel s (P1 x) (P3 x)) = true then mx9 P1 P2 P3 rel y (on9 s x) (P1 x :: T) ++ mx9 P1 P2 P3 rel y (on9 s x) (P2 x :: T) else mx9 P1 P2 P3 rel y (on9 s x) T
/-- how two crossings stand to each other -/
theorem dd_cs (hC : cub9 n P1 P2 P3 rel) (hx : x < n) (hy : y < n) (sx : s x = false) (sy : s y = false) (hne : x ≠ y) : (rel s (P1 x) (P3 x) → ¬ rel (on9 s y) (P1 x) (P3 x) → (rel s (P1 y) (P3 y) ∧ ¬ rel (on9 s x) (P1 y) (P3 y)) ∧ ∀ a b, (a = P1 x ∨ a = P2 x) → (b = P1 y ∨ b = P2 y) → rel (on9 (on9 s x) y) a b) ∧ (¬ rel s (P1 x) (P3 x) → rel (on9 s y) (P1 x) (P3 x) → (¬ rel s (P1 y) (P3 y) ∧ rel (on9 s x) (P1 y) (P3 y)) ∧ (rel (on9 (on9 s x) y) (P1 x) (P1 y) ∧ rel (on9 (on9 s x) y) (P2 x) (P2 y) ∨ rel (on9 (on9 s x) y) (P1 x) (P2 y) ∧ rel (on9 (on9 s x) y) (P2 x) (P1 y))) := by
  have hE := hC.1
  have sxy : on9 s x y = false := by rw [on_o (fun h9 => hne h9.symm)]; exact sy
  have syx : on9 s y x = false := by rw [on_o hne]; exact sx
  have cx := hC.2 s x hx sx
  have cy := hC.2 s y hy sy
  have cxy := hC.2 (on9 s x) y hy sxy
  have cyx := hC.2 (on9 s y) x hx syx
  rw [← on_c s x y] at cyx
  constructor
  · intro hA hB
    obtain ⟨-, x2, x3⟩ := cx.resolve_left (fun h9 => h9.1 hA)
    -- y parts s
    have hA' : rel s (P1 y) (P3 y) := by
      rcases cy with ⟨h1, h2⟩ | ⟨h1, -⟩
      · exact absurd ((h2 _ _).mpr (Or.inl hA)) hB
      · exact h1
    obtain ⟨-, y2, y3⟩ := cy.resolve_left (fun h9 => h9.1 hA')
    obtain ⟨-, u3⟩ := cyx.resolve_right (fun h9 => hB h9.1)
    have hBq : ¬ rel (on9 s x) (P1 y) (P3 y) := fun h9 => by
      obtain ⟨-, v2, v3⟩ := cxy.resolve_left (fun h8 => h8.1 h9)
      -- rel u lies between rel (s y) and rel s
      have q := adr_bt (hE (on9 s y)) (hE (on9 (on9 s x) y)) (fun g h h8 => (u3 g h).mpr (Or.inl h8)) (fun g h h8 => (y3 g h).mp ((x3 g h).mpr (Or.inl ((v3 g h).mpr (Or.inl h8))))) ((u3 _ _).mpr (adr_ab (hE (on9 s y)))) hB
      exact v2 (q _ _ ((y3 _ _).mp ((x3 _ _).mpr (Or.inl ((v3 _ _).mpr (adr_ab (hE _)))))))
    obtain ⟨-, w3⟩ := cxy.resolve_right (fun h9 => hBq h9.1)
    refine ⟨⟨hA', hBq⟩, ?_⟩
    -- u = s
    have us : ∀ g h, rel s g h → rel (on9 (on9 s x) y) g h := fun g h h9 => by
      have q := adr_bt (hE (on9 s x)) (hE s) (fun g h h8 => (x3 g h).mpr (Or.inl h8)) (fun g h h8 => (x3 g h).mp h8) hA' hBq
      have q2 : ∀ g h, adr (rel (on9 s x)) (P1 x) (P2 x) g h → rel (on9 (on9 s x) y) g h := by
        -- P1 x, P2 x are one in u
        have h12 : rel (on9 (on9 s x) y) (P1 x) (P2 x) := by
          have hu := (w3 _ _).mpr (adr_ab (hE (on9 s x)) (a := P1 y) (b := P3 y))
          have up : ∀ g h, rel (on9 s x) g h → rel (on9 (on9 s x) y) g h := fun g h h8 => (w3 g h).mpr (Or.inl h8)
          rcases (x3 _ _).mp hA' with h8 | ⟨h8, h7⟩ | ⟨h8, h7⟩
          · exact absurd h8 hBq
          · exact (hE _).2.2 _ _ _ ((hE _).2.1 _ _ (up _ _ h8)) ((hE _).2.2 _ _ _ hu (up _ _ h7))
          · exact (hE _).2.2 _ _ _ ((hE _).2.1 _ _ (up _ _ h7)) ((hE _).2.2 _ _ _ ((hE _).2.1 _ _ hu) (up _ _ h8))
        intro g h h8
        have up : ∀ g h, rel (on9 s x) g h → rel (on9 (on9 s x) y) g h := fun g h h8 => (w3 g h).mpr (Or.inl h8)
        rcases h8 with h8 | ⟨h8, h7⟩ | ⟨h8, h7⟩
        · exact up _ _ h8
        · exact (hE _).2.2 _ _ _ (up _ _ h8) ((hE _).2.2 _ _ _ h12 ((hE _).2.1 _ _ (up _ _ h7)))
        · exact (hE _).2.2 _ _ _ (up _ _ h8) ((hE _).2.2 _ _ _ ((hE _).2.1 _ _ h12) ((hE _).2.1 _ _ (up _ _ h7)))
      exact q2 g h ((x3 g h).mp h9)
    have sx12 : rel s (P1 x) (P2 x) := (x3 _ _).mpr (adr_ab (hE _))
    have sy12 : rel s (P1 y) (P2 y) := (y3 _ _).mpr (adr_ab (hE _))
    have sxy1 : rel s (P1 x) (P1 y) := by
      rcases (x3 _ _).mp hA' with h8 | ⟨h8, h7⟩ | ⟨h8, h7⟩
      · exact absurd h8 hBq
      · exact (hE s).2.1 _ _ ((x3 _ _).mpr (Or.inl h8))
      · exact (hE s).2.2 _ _ _ sx12 ((hE s).2.1 _ _ ((x3 _ _).mpr (Or.inl h8)))
    intro a b ha hb
    refine us a b ?_
    have a1 : rel s a (P1 x) := by
      rcases ha with e | e
      · rw [e]
        exact (hE s).1 _
      · rw [e]
        exact (hE s).2.1 _ _ sx12
    have b1 : rel s (P1 y) b := by
      rcases hb with e | e
      · rw [e]
        exact (hE s).1 _
      · rw [e]
        exact sy12
    exact (hE s).2.2 _ _ _ a1 ((hE s).2.2 _ _ _ sxy1 b1)
  · intro hA hB
    obtain ⟨-, x3⟩ := cx.resolve_right (fun h9 => hA h9.1)
    have hA' : ¬ rel s (P1 y) (P3 y) := fun h9 => by
      obtain ⟨-, y2, y3⟩ := cy.resolve_left (fun h8 => h8.1 h9)
      exact hA ((y3 _ _).mpr (Or.inl hB))
    obtain ⟨-, y3⟩ := cy.resolve_right (fun h9 => hA' h9.1)
    have eq1 : ∀ g h, rel (on9 s y) g h → rel (on9 s x) g h := fun g h h9 => by
      have q := adr_bt (hE s) (hE (on9 s x)) (a := P1 y) (b := P3 y) (c := P1 x) (d := P3 x) (fun g h h8 => (x3 g h).mpr (Or.inl h8)) (fun g h h8 => ?_) ((x3 _ _).mpr (adr_ab (hE s))) hA
      · exact q g h ((y3 g h).mp h9)
      · -- rel (s x) within rel (s y)
        refine (y3 g h).mp ?_
        rcases (x3 g h).mp h8 with h7 | ⟨h7, h6⟩ | ⟨h7, h6⟩
        · exact (y3 _ _).mpr (Or.inl h7)
        · exact (hE _).2.2 _ _ _ ((y3 _ _).mpr (Or.inl h7)) ((hE _).2.2 _ _ _ hB ((hE _).2.1 _ _ ((y3 _ _).mpr (Or.inl h6))))
        · exact (hE _).2.2 _ _ _ ((y3 _ _).mpr (Or.inl h7)) ((hE _).2.2 _ _ _ ((hE _).2.1 _ _ hB) ((hE _).2.1 _ _ ((y3 _ _).mpr (Or.inl h6))))
    have hBq : rel (on9 s x) (P1 y) (P3 y) := eq1 _ _ ((y3 _ _).mpr (adr_ab (hE s)))
    refine ⟨⟨hA', hBq⟩, ?_⟩
    obtain ⟨-, v2, v3⟩ := cxy.resolve_left (fun h8 => h8.1 hBq)
    obtain ⟨-, w2, w3⟩ := cyx.resolve_left (fun h8 => h8.1 hB)
    have h12 : rel (on9 s x) (P1 x) (P2 x) := eq1 _ _ ((w3 _ _).mpr (adr_ab (hE _)))
    rcases (v3 _ _).mp h12 with h8 | ⟨h8, h7⟩ | ⟨h8, h7⟩
    · exact absurd h8 w2
    · exact Or.inl ⟨h8, h7⟩
    · exact Or.inr ⟨h8, h7⟩
theorem mx_y (h : rel s (P1 x) (P3 x)) : mx9 P1 P2 P3 rel x s T = mo9 rel (on9 s x) (P1 x :: T) ++ mo9 rel (on9 s x) (P2 x :: T) := if_pos (dcb_t.mpr h)
theorem mx_n (h : ¬ rel s (P1 x) (P3 x)) : mx9 P1 P2 P3 rel x s T = mo9 rel (on9 s x) T := if_neg (fun h9 => h (dcb_t.mp h9))
theorem dd_y (h : rel s (P1 x) (P3 x)) : dd9 P1 P2 P3 rel x y s T = mx9 P1 P2 P3 rel y (on9 s x) (P1 x :: T) ++ mx9 P1 P2 P3 rel y (on9 s x) (P2 x :: T) := if_pos (dcb_t.mpr h)
theorem dd_n (h : ¬ rel s (P1 x) (P3 x)) : dd9 P1 P2 P3 rel x y s T = mx9 P1 P2 P3 rel y (on9 s x) T := if_neg (fun h9 => h (dcb_t.mp h9))
theorem dd_sym (hC : cub9 n P1 P2 P3 rel) (hx : x < n) (hy : y < n) (sx : s x = false) (sy : s y = false) (hne : x ≠ y) : eq9 (dd9 P1 P2 P3 rel x y s T) (dd9 P1 P2 P3 rel y x s T) := by
  have hE := hC.1
  have c1 := dd_cs hC hx hy sx sy hne
  have c2 := dd_cs hC hy hx sy sx (fun h9 => hne h9.symm)
  have eu : on9 (on9 s y) x = on9 (on9 s x) y := (on_c s x y).symm
  by_cases hA : rel s (P1 x) (P3 x)
  · by_cases hB' : rel (on9 s y) (P1 x) (P3 x)
    · by_cases hA' : rel s (P1 y) (P3 y)
      · have hB : rel (on9 s x) (P1 y) (P3 y) := by
          apply Classical.byContradiction
          intro h9
          exact (c2.1 hA' h9).1.2 hB'
        rw [dd_y hA, dd_y hA', mx_y hB, mx_y hB, mx_y hB', mx_y hB', eu, mo_sw (hE _) (a := P1 x) (b := P1 y), mo_sw (hE _) (a := P1 x) (b := P2 y), mo_sw (hE _) (a := P2 x) (b := P1 y), mo_sw (hE _) (a := P2 x) (b := P2 y)]
        intro γ
        rw [cf_a, cf_a, cf_a, cf_a, cf_a, cf_a]
        omega
      · have hB : ¬ rel (on9 s x) (P1 y) (P3 y) := fun h9 => (c2.2 hA' h9).1.1 hA
        rw [dd_y hA, dd_n hA', mx_n hB, mx_n hB, mx_y hB', eu]
        exact eq_r
    · obtain ⟨⟨hA', hB⟩, hr⟩ := c1.1 hA hB'
      rw [dd_y hA, dd_y hA', mx_n hB, mx_n hB, mx_n hB', mx_n hB', eu]
      rw [mo_rp (hE _) (hr (P1 x) (P1 y) (Or.inl rfl) (Or.inl rfl)), mo_rp (hE _) (hr (P2 x) (P2 y) (Or.inr rfl) (Or.inr rfl))]
      exact eq_r
  · by_cases hB' : rel (on9 s y) (P1 x) (P3 x)
    · obtain ⟨⟨hA', hB⟩, hr⟩ := c1.2 hA hB'
      rw [dd_n hA, dd_n hA', mx_y hB, mx_y hB', eu]
      rcases hr with ⟨h1, h2⟩ | ⟨h1, h2⟩
      · rw [mo_rp (hE _) h1, mo_rp (hE _) h2]
        exact eq_r
      · rw [mo_rp (hE _) h1, mo_rp (hE _) h2]
        exact eq_cm
    · by_cases hA' : rel s (P1 y) (P3 y)
      · have hB : rel (on9 s x) (P1 y) (P3 y) := by
          apply Classical.byContradiction
          intro h9
          exact hA (c2.1 hA' h9).1.1
        rw [dd_n hA, dd_y hA', mx_y hB, mx_n hB', mx_n hB', eu]
        exact eq_r
      · have hB : ¬ rel (on9 s x) (P1 y) (P3 y) := fun h9 => hB' (c2.2 hA' h9).1.2
        rw [dd_n hA, dd_n hA', mx_n hB, mx_n hB', eu]
        exact eq_r
/-- D on a monomial -/
theorem D_mo (hC : cub9 n P1 P2 P3 rel) (s : Nat → Bool) (T : List Nat) : ∀ k, k ≤ n → eq9 (bd9 (D9 P1 P2 P3 rel k) (mo9 rel s T)) (mD9 P1 P2 P3 rel k s T) := by
  intro k
  induction k with
  | zero =>
    intro _ γ
    show smf9 (id9 γ) (bd9 (D9 P1 P2 P3 rel 0) (mo9 rel s T)) = 0
    rw [sm_bd]
    have : ∀ l : fc9, smf9 (fun δ => smf9 (id9 γ) (D9 P1 P2 P3 rel 0 δ)) l = 0 := fun l => by
      induction l with
      | nil => rfl
      | cons q l ih =>
        show q.1 * 0 + smf9 (fun δ => smf9 (id9 γ) (D9 P1 P2 P3 rel 0 δ)) l = 0
        rw [ih, Int.mul_zero]
        rfl
    exact this _
  | succ k ih =>
    intro hk γ
    have ih9 := ih (by omega) γ
    show smf9 (id9 γ) (bd9 (D9 P1 P2 P3 rel (k + 1)) (mo9 rel s T)) = smf9 (id9 γ) (mD9 P1 P2 P3 rel k s T ++ (if s k = true then [] else scf9 (par9 s k) (mx9 P1 P2 P3 rel k s T)))
    have ih9 : smf9 (id9 γ) (bd9 (D9 P1 P2 P3 rel k) (mo9 rel s T)) = smf9 (id9 γ) (mD9 P1 P2 P3 rel k s T) := ih9
    rw [sm_a, ← ih9, sm_bd, sm_bd]
    by_cases hf : fe9 rel s T
    · rw [mo_y hf]
      show 1 * smf9 (id9 γ) (D9 P1 P2 P3 rel k (s, inm9 rel s T) ++ (if s k = true then [] else scf9 (par9 s k) (Dx9 P1 P2 P3 rel k (s, inm9 rel s T)))) + 0 = 1 * smf9 (id9 γ) (D9 P1 P2 P3 rel k (s, inm9 rel s T)) + 0 + _
      rw [sm_a]
      by_cases c : s k = true
      · rw [if_pos c, if_pos c]
        omega
      · rw [if_neg c, if_neg c, sm_sc, sm_sc]
        have h1 := dx_mo hC (x := k) (by omega) (show s k = false by cases h : s k <;> simp_all) T γ
        rw [mo_y hf] at h1
        have h2 := bd_1 (f := Dx9 P1 P2 P3 rel k) (s, inm9 rel s T) γ
        have h3 : smf9 (id9 γ) (Dx9 P1 P2 P3 rel k (s, inm9 rel s T)) = smf9 (id9 γ) (mx9 P1 P2 P3 rel k s T) := h2.symm.trans h1
        rw [h3]
        omega
    · rw [mo_n9 hf]
      show (0 : Int) = 0 + _
      by_cases c : s k = true
      · rw [if_pos c]
        rfl
      · rw [if_neg c, sm_sc]
        have h1 := dx_mo hC (x := k) (by omega) (show s k = false by cases h : s k <;> simp_all) T γ
        rw [mo_n9 hf] at h1
        have h3 : (0 : Int) = smf9 (id9 γ) (mx9 P1 P2 P3 rel k s T) := h1
        rw [← h3, Int.mul_zero]
        rfl
/-- D OF D IS 0 -/
theorem DD_0 (hC : cub9 n P1 P2 P3 rel) (s : Nat → Bool) (T : List Nat) (γ : gn9) : cf9 (bd9 (D9 P1 P2 P3 rel n) (mD9 P1 P2 P3 rel n s T)) γ = 0 := by
  have e1 : cf9 (bd9 (D9 P1 P2 P3 rel n) (mD9 P1 P2 P3 rel n s T)) γ = sN9 (fun x => if s x = true then 0 else par9 s x * smf9 (fun δ => smf9 (id9 γ) (D9 P1 P2 P3 rel n δ)) (mx9 P1 P2 P3 rel x s T)) n := by
    show smf9 (id9 γ) (bd9 (D9 P1 P2 P3 rel n) (mD9 P1 P2 P3 rel n s T)) = _
    rw [sm_bd, smf_mD]
  have e0 : ∀ t T', smf9 (fun δ => smf9 (id9 γ) (D9 P1 P2 P3 rel n δ)) (mo9 rel t T') = sN9 (fun y => if t y = true then 0 else par9 t y * cf9 (mx9 P1 P2 P3 rel y t T') γ) n := fun t T' => by
    have h1 := D_mo hC t T' n (Nat.le_refl n) γ
    have h2 : smf9 (id9 γ) (bd9 (D9 P1 P2 P3 rel n) (mo9 rel t T')) = smf9 (id9 γ) (mD9 P1 P2 P3 rel n t T') := h1
    rw [sm_bd, smf_mD] at h2
    exact h2
  have e2 : ∀ x, smf9 (fun δ => smf9 (id9 γ) (D9 P1 P2 P3 rel n δ)) (mx9 P1 P2 P3 rel x s T) = sN9 (fun y => if on9 s x y = true then 0 else par9 (on9 s x) y * cf9 (dd9 P1 P2 P3 rel x y s T) γ) n := fun x => by
    by_cases hA : rel s (P1 x) (P3 x)
    · rw [mx_y hA, sm_a, e0, e0, ← sN_a]
      refine sN_cg (fun y _ => ?_)
      split
      · rfl
      · rw [dd_y hA, cf_a, Int.mul_add]
    · rw [mx_n hA, e0]
      refine sN_cg (fun y _ => ?_)
      rw [dd_n hA]
  rw [e1]
  let a : Nat → Nat → Int := fun x y => if s x = true ∨ s y = true ∨ x = y ∨ n ≤ x ∨ n ≤ y then 0 else par9 s x * par9 (on9 s x) y * cf9 (dd9 P1 P2 P3 rel x y s T) γ
  have ha : ∀ x y, a x y = -a y x := fun x y => by
    show (if s x = true ∨ s y = true ∨ x = y ∨ n ≤ x ∨ n ≤ y then 0 else par9 s x * par9 (on9 s x) y * cf9 (dd9 P1 P2 P3 rel x y s T) γ) = -(if s y = true ∨ s x = true ∨ y = x ∨ n ≤ y ∨ n ≤ x then 0 else par9 s y * par9 (on9 s y) x * cf9 (dd9 P1 P2 P3 rel y x s T) γ)
    by_cases c : s x = true ∨ s y = true ∨ x = y ∨ n ≤ x ∨ n ≤ y
    · rw [if_pos c, if_pos (by
        rcases c with c | c | c | c | c
        · exact Or.inr (Or.inl c)
        · exact Or.inl c
        · exact Or.inr (Or.inr (Or.inl c.symm))
        · exact Or.inr (Or.inr (Or.inr (Or.inr c)))
        · exact Or.inr (Or.inr (Or.inr (Or.inl c))))]
      rfl
    · rw [if_neg c, if_neg (fun h9 => c (by
        rcases h9 with c | c | c | c | c
        · exact Or.inr (Or.inl c)
        · exact Or.inl c
        · exact Or.inr (Or.inr (Or.inl c.symm))
        · exact Or.inr (Or.inr (Or.inr (Or.inr c)))
        · exact Or.inr (Or.inr (Or.inr (Or.inl c)))))]
      have sx : s x = false := by
        cases h : s x
        · rfl
        · exact absurd (Or.inl h) c
      have sy : s y = false := by
        cases h : s y
        · rfl
        · exact absurd (Or.inr (Or.inl h)) c
      have hne : x ≠ y := fun h9 => c (Or.inr (Or.inr (Or.inl h9)))
      have hx : x < n := Nat.lt_of_not_le (fun h9 => c (Or.inr (Or.inr (Or.inr (Or.inl h9)))))
      have hy : y < n := Nat.lt_of_not_le (fun h9 => c (Or.inr (Or.inr (Or.inr (Or.inr h9)))))
      rw [dd_sym hC hx hy sx sy hne γ, par_an sx sy hne, Int.neg_mul]
  have e3 : sN9 (fun x => if s x = true then 0 else par9 s x * smf9 (fun δ => smf9 (id9 γ) (D9 P1 P2 P3 rel n δ)) (mx9 P1 P2 P3 rel x s T)) n = sN9 (fun x => sN9 (fun y => a x y) n) n := sN_cg (fun x hx => by
    by_cases c : s x = true
    · rw [if_pos c]
      have : (fun y => a x y) = fun _ => (0 : Int) := funext (fun y => if_pos (Or.inl c))
      rw [this, sN_0]
    · rw [if_neg c, e2 x]
      have mul : ∀ (f : Nat → Int) (k : Nat), par9 s x * sN9 f k = sN9 (fun y => par9 s x * f y) k := fun f k => by
        induction k with
        | zero => exact Int.mul_zero _
        | succ k ih =>
          show par9 s x * (sN9 f k + f k) = sN9 (fun y => par9 s x * f y) k + par9 s x * f k
          rw [Int.mul_add, ih]
      rw [mul]
      refine sN_cg (fun y hy => ?_)
      show par9 s x * (if on9 s x y = true then 0 else par9 (on9 s x) y * cf9 (dd9 P1 P2 P3 rel x y s T) γ) = if s x = true ∨ s y = true ∨ x = y ∨ n ≤ x ∨ n ≤ y then 0 else par9 s x * par9 (on9 s x) y * cf9 (dd9 P1 P2 P3 rel x y s T) γ
      by_cases e : y = x
      · rw [e, on_x, if_pos rfl, if_pos (Or.inr (Or.inr (Or.inl rfl))), Int.mul_zero]
      · rw [on_o e]
        by_cases c2 : s y = true
        · rw [if_pos c2, if_pos (Or.inr (Or.inl c2)), Int.mul_zero]
        · rw [if_neg c2, if_neg (fun h9 => by
            rcases h9 with h9 | h9 | h9 | h9 | h9
            · exact c h9
            · exact c2 h9
            · exact e h9.symm
            · omega
            · omega), Int.mul_assoc])
  rw [e3]
  exact sN_an ha n
end XCH8
end
section
/-! 99zzzzzzzzzzzzzzzzyg.xch5 -/
/-! chain: when two rows of groups leave the same -/
section XCH9
variable {p : Int} {n0 n1 n2 m0 m1 m2 : Nat} {d0 d1 e0 e1 f0 f1 f2 : Nat → vc9}
/-- from kernels and images to sizes and ranks -/
theorem hd_rk (hp : pr9 p) (hi : iv9 p) (hdd : ∀ v, zq9 p n2 (ap9 d1 n1 (ap9 d0 n0 v)) (fun _ => 0)) (hee : ∀ v, zq9 p m2 (ap9 e1 m1 (ap9 e0 m0 v)) (fun _ => 0)) (h : dm9 p n1 (kr9 p n2 d1 n1) + dm9 p m1 (sp9 p m1 (rwl9 e0 m0)) = dm9 p m1 (kr9 p m2 e1 m1) + dm9 p n1 (sp9 p n1 (rwl9 d0 n0))) : n1 + (rk9 p m2 (rwl9 e1 m1) + rk9 p m1 (rwl9 e0 m0)) = m1 + (rk9 p n2 (rwl9 d1 n1) + rk9 p n1 (rwl9 d0 n0)) := by
  have k1 := kr_dm (m := n2) (n := n1) (d := d1) hp.1 hi
  have k2 := kr_dm (m := m2) (n := m1) (d := e1) hp.1 hi
  rw [← rk_dm hp hi, ← rk_dm hp hi] at h
  omega
/-- f one to one from e to d; what comes from f by d comes from f but for an image -/
theorem quo9 (hp : pr9 p) (hi : iv9 p) (hdd : ∀ v, zq9 p n2 (ap9 d1 n1 (ap9 d0 n0 v)) (fun _ => 0)) (hee : ∀ v, zq9 p m2 (ap9 e1 m1 (ap9 e0 m0 v)) (fun _ => 0)) (c0 : ∀ v, zq9 p n1 (ap9 f1 m1 (ap9 e0 m0 v)) (ap9 d0 n0 (ap9 f0 m0 v))) (c1 : ∀ v, zq9 p n2 (ap9 f2 m2 (ap9 e1 m1 v)) (ap9 d1 n1 (ap9 f1 m1 v))) (i1 : ∀ v, zq9 p n1 (ap9 f1 m1 v) (fun _ => 0) → zq9 p m1 v (fun _ => 0)) (i2 : ∀ v, zq9 p n2 (ap9 f2 m2 v) (fun _ => 0) → zq9 p m2 v (fun _ => 0)) (r1 : ∀ v u, zq9 p n2 (ap9 d1 n1 v) (ap9 f2 m2 u) → ∃ t w, zq9 p n1 v (fun i => ap9 f1 m1 t i + ap9 d0 n0 w i)) (r0 : ∀ v u, zq9 p n1 (ap9 d0 n0 v) (ap9 f1 m1 u) → ∃ t, zq9 p n1 (ap9 d0 n0 v) (ap9 d0 n0 (ap9 f0 m0 t))) : n1 + (rk9 p m2 (rwl9 e1 m1) + rk9 p m1 (rwl9 e0 m0)) = m1 + (rk9 p n2 (rwl9 d1 n1) + rk9 p n1 (rwl9 d0 n0)) := by
  have z0 : ∀ {n m : Nat} {d : Nat → vc9} {v : vc9}, zq9 p n v (fun _ => 0) → zq9 p m (ap9 d n v) (fun _ => 0) := fun hv => zq_t (ap_q hv) (fun j _ => by rw [ap_0, Int.sub_self]; exact Int.dvd_zero p)
  refine hd_rk hp hi hdd hee (hd_eq hp hi (F := f1) sub_kr sub_kr (sub_sp _) (sub_sp _) (fun v hv => ?_) (fun v hv => ?_) (fun v hv => ?_) (fun v hv => ?_) (fun z hz => ?_) (fun z hz hb => ?_))
  · obtain ⟨w, hw⟩ := sp_ap.mp hv
    exact zq_t (ap_q hw) (hdd w)
  · obtain ⟨w, hw⟩ := sp_ap.mp hv
    exact zq_t (ap_q hw) (hee w)
  · exact zq_t (zq_s (c1 v)) (z0 hv)
  · obtain ⟨w, hw⟩ := sp_ap.mp hv
    exact sp_ap.mpr ⟨ap9 f0 m0 w, zq_t (ap_q hw) (c0 w)⟩
  · obtain ⟨t, w, h1⟩ := r1 z (fun _ => 0) (zq_t hz (zq_s (z0 zq_r)))
    refine ⟨t, i2 _ (zq_t (c1 t) ?_), sp_ap.mpr ⟨w, fun i hi9 => ?_⟩⟩
    · -- d1 (f1 t) = d1 (z - d0 w) = 0
      have h2 := ap_q (d := d1) (m := n2) h1
      intro j hj
      have a1 := h2 j hj
      have a2 := hz j hj
      have a3 := hdd w j hj
      rw [ap_add] at a1
      have := Int.dvd_sub (Int.dvd_sub a2 a1) a3
      rw [show ap9 d1 n1 z j - 0 - (ap9 d1 n1 z j - (ap9 d1 n1 (ap9 f1 m1 t) j + ap9 d1 n1 (ap9 d0 n0 w) j)) - (ap9 d1 n1 (ap9 d0 n0 w) j - 0) = ap9 d1 n1 (ap9 f1 m1 t) j - 0 by omega] at this
      exact this
    · have a1 := h1 i hi9
      show p ∣ z i - ap9 f1 m1 t i - ap9 d0 n0 w i
      rw [show z i - ap9 f1 m1 t i - ap9 d0 n0 w i = z i - (ap9 f1 m1 t i + ap9 d0 n0 w i) by omega]
      exact a1
  · obtain ⟨c, hc⟩ := sp_ap.mp hb
    obtain ⟨t, ht⟩ := r0 c z (zq_s hc)
    refine sp_ap.mpr ⟨t, ?_⟩
    have h3 : zq9 p n1 (ap9 f1 m1 z) (ap9 f1 m1 (ap9 e0 m0 t)) := zq_t hc (zq_t ht (zq_s (c0 t)))
    have h4 := i1 (fun i => z i + (-1) * ap9 e0 m0 t i) (fun j hj => by
      rw [ap_add, ap_mul]
      have := h3 j hj
      rw [show ap9 f1 m1 z j + -1 * ap9 f1 m1 (ap9 e0 m0 t) j - 0 = ap9 f1 m1 z j - ap9 f1 m1 (ap9 e0 m0 t) j by omega]
      exact this)
    intro i hi9
    have := h4 i hi9
    rw [show z i + -1 * ap9 e0 m0 t i - 0 = z i - ap9 e0 m0 t i by omega] at this
    exact this
/-- f onto from d to e; what f takes to 0 is an image of such, if it is taken to 0 by d -/
theorem sbx9 (hp : pr9 p) (hi : iv9 p) (hdd : ∀ v, zq9 p n2 (ap9 d1 n1 (ap9 d0 n0 v)) (fun _ => 0)) (hee : ∀ v, zq9 p m2 (ap9 e1 m1 (ap9 e0 m0 v)) (fun _ => 0)) (c0 : ∀ v, zq9 p m1 (ap9 f1 n1 (ap9 d0 n0 v)) (ap9 e0 m0 (ap9 f0 n0 v))) (c1 : ∀ v, zq9 p m2 (ap9 f2 n2 (ap9 d1 n1 v)) (ap9 e1 m1 (ap9 f1 n1 v))) (s0 : ∀ u, ∃ v, zq9 p m0 (ap9 f0 n0 v) u) (s1 : ∀ u, ∃ v, zq9 p m1 (ap9 f1 n1 v) u) (r1 : ∀ v, zq9 p m1 (ap9 f1 n1 v) (fun _ => 0) → zq9 p n2 (ap9 d1 n1 v) (fun _ => 0) → ∃ w, zq9 p n1 v (ap9 d0 n0 w)) (r2 : ∀ v, zq9 p m2 (ap9 f2 n2 (ap9 d1 n1 v)) (fun _ => 0) → ∃ w, zq9 p m1 (ap9 f1 n1 w) (fun _ => 0) ∧ zq9 p n2 (ap9 d1 n1 v) (ap9 d1 n1 w)) : m1 + (rk9 p n2 (rwl9 d1 n1) + rk9 p n1 (rwl9 d0 n0)) = n1 + (rk9 p m2 (rwl9 e1 m1) + rk9 p m1 (rwl9 e0 m0)) := by
  have z0 : ∀ {n m : Nat} {d : Nat → vc9} {v : vc9}, zq9 p n v (fun _ => 0) → zq9 p m (ap9 d n v) (fun _ => 0) := fun hv => zq_t (ap_q hv) (fun j _ => by rw [ap_0, Int.sub_self]; exact Int.dvd_zero p)
  refine hd_rk hp hi hee hdd (hd_eq hp hi (F := f1) sub_kr sub_kr (sub_sp _) (sub_sp _) (fun v hv => ?_) (fun v hv => ?_) (fun v hv => ?_) (fun v hv => ?_) (fun z hz => ?_) (fun z hz hb => ?_))
  · obtain ⟨w, hw⟩ := sp_ap.mp hv
    exact zq_t (ap_q hw) (hee w)
  · obtain ⟨w, hw⟩ := sp_ap.mp hv
    exact zq_t (ap_q hw) (hdd w)
  · exact zq_t (zq_s (c1 v)) (z0 hv)
  · obtain ⟨w, hw⟩ := sp_ap.mp hv
    exact sp_ap.mpr ⟨ap9 f0 n0 w, zq_t (ap_q hw) (c0 w)⟩
  · obtain ⟨v, hv⟩ := s1 z
    obtain ⟨w, w1, w2⟩ := r2 v (zq_t (c1 v) (zq_t (ap_q hv) hz))
    refine ⟨fun i => v i + (-1) * w i, fun j hj => ?_, sp_q (fun i hi9 => ?_) sp_0⟩
    · rw [ap_add, ap_mul]
      have := w2 j hj
      rw [show ap9 d1 n1 v j + -1 * ap9 d1 n1 w j - 0 = ap9 d1 n1 v j - ap9 d1 n1 w j by omega]
      exact this
    · have a1 := hv i hi9
      have a2 := w1 i hi9
      rw [ap_add, ap_mul]
      have := Int.dvd_sub a2 a1
      rw [show ap9 f1 n1 w i - 0 - (ap9 f1 n1 v i - z i) = z i - (ap9 f1 n1 v i + -1 * ap9 f1 n1 w i) - 0 by omega] at this
      exact this
  · obtain ⟨c, hc⟩ := sp_ap.mp hb
    obtain ⟨u, hu⟩ := s0 c
    have h1 : zq9 p m1 (ap9 f1 n1 (fun i => z i + (-1) * ap9 d0 n0 u i)) (fun _ => 0) := fun j hj => by
      rw [ap_add, ap_mul]
      have a1 := hc j hj
      have a2 := (zq_t (c0 u) (ap_q hu)) j hj
      have := Int.dvd_sub a1 a2
      rw [show ap9 f1 n1 z j - ap9 e0 m0 c j - (ap9 f1 n1 (ap9 d0 n0 u) j - ap9 e0 m0 c j) = ap9 f1 n1 z j + -1 * ap9 f1 n1 (ap9 d0 n0 u) j - 0 by omega] at this
      exact this
    have h2 : zq9 p n2 (ap9 d1 n1 (fun i => z i + (-1) * ap9 d0 n0 u i)) (fun _ => 0) := fun j hj => by
      rw [ap_add, ap_mul]
      have a1 := hz j hj
      have a2 := dvr9 (-1) (hdd u j hj)
      have := Int.dvd_add a1 a2
      rw [show ap9 d1 n1 z j - 0 + -1 * (ap9 d1 n1 (ap9 d0 n0 u) j - 0) = ap9 d1 n1 z j + -1 * ap9 d1 n1 (ap9 d0 n0 u) j - 0 by omega] at this
      exact this
    obtain ⟨w, hw⟩ := r1 _ h1 h2
    refine sp_q (fun i hi9 => ?_) (sp_a (sp_ap.mpr ⟨w, zq_r⟩) (sp_ap.mpr ⟨u, zq_r⟩))
    have a1 := hw i hi9
    show p ∣ z i - (ap9 d0 n0 w i + ap9 d0 n0 u i)
    rw [show z i - (ap9 d0 n0 w i + ap9 d0 n0 u i) = z i + -1 * ap9 d0 n0 u i - ap9 d0 n0 w i by omega]
    exact a1
end XCH9
end
section
/-! 99zzzzzzzzzzzzzzzzyh.xch6 -/
/-! chain: groups given by their generators -/
def cmb9 (E : Nat → gn9) : Nat → vc9 → fc9
  | 0, _ => []
  | n + 1, v => cmb9 E n v ++ [(v n, E n)]
noncomputable def mtx9 (f : gn9 → fc9) (E E' : Nat → gn9) : Nat → vc9 := fun i j => cf9 (f (E i)) (E' j)
def inj9 (E : Nat → gn9) (n : Nat) : Prop := ∀ i j, i < n → j < n → E i = E j → i = j
/-- nothing outside -/
def spt9 (l : fc9) (E : Nat → gn9) (n : Nat) : Prop := ∀ γ, cf9 l γ ≠ 0 → ∃ j, j < n ∧ γ = E j
section XCHA
variable {p : Int} {n n' : Nat} {E E' E'' : Nat → gn9} {f g : gn9 → fc9} {φ : gn9 → Int} {v : vc9} {l l' : fc9}
theorem sm_cm : ∀ {n : Nat}, smf9 φ (cmb9 E n v) = sN9 (fun i => v i * φ (E i)) n
  | 0 => rfl
  | n + 1 => by
    show smf9 φ (cmb9 E n v ++ [(v n, E n)]) = sN9 (fun i => v i * φ (E i)) n + v n * φ (E n)
    rw [sm_a, sm_cm]
    show _ + (v n * φ (E n) + 0) = _
    omega
theorem cf_bd (γ : gn9) : cf9 (bd9 f l) γ = smf9 (fun δ => cf9 (f δ) γ) l := sm_bd
theorem ap_mt (j : Nat) : ∀ {n : Nat}, ap9 (mtx9 f E E') n v j = cf9 (bd9 f (cmb9 E n v)) (E' j)
  | 0 => rfl
  | n + 1 => by
    show ap9 (mtx9 f E E') n v j + v n * cf9 (f (E n)) (E' j) = cf9 (bd9 f (cmb9 E n v ++ [(v n, E n)])) (E' j)
    rw [ap_mt j, cf_bd, cf_bd, sm_a]
    show _ = _ + (v n * cf9 (f (E n)) (E' j) + 0)
    omega
theorem cf_cm (γ : gn9) : cf9 (cmb9 E n v) γ = sN9 (fun i => v i * id9 γ (E i)) n := sm_cm
theorem cf_cn {γ : gn9} : ∀ {n : Nat}, (∀ i, i < n → E i ≠ γ) → cf9 (cmb9 E n v) γ = 0
  | 0, _ => rfl
  | n + 1, h => by
    show cf9 (cmb9 E n v ++ [(v n, E n)]) γ = 0
    rw [cf_a, cf_cn (n := n) (fun i hi => h i (by omega))]
    show 0 + (v n * id9 γ (E n) + 0) = 0
    rw [id_n (h n (by omega)), Int.mul_zero]
    rfl
theorem cf_cy {j : Nat} : ∀ {n : Nat}, inj9 E n → j < n → cf9 (cmb9 E n v) (E j) = v j
  | 0, _, h => absurd h (Nat.not_lt_zero _)
  | n + 1, hi, h => by
    show cf9 (cmb9 E n v ++ [(v n, E n)]) (E j) = v j
    rw [cf_a]
    by_cases e : j = n
    · rw [e, cf_cn (fun i hi9 h9 => by have := hi i n (by omega) (by omega) h9; omega)]
      show 0 + (v n * id9 (E n) (E n) + 0) = v n
      rw [id_y, Int.mul_one]
      omega
    · rw [cf_cy (n := n) (fun i k h1 h2 => hi i k (by omega) (by omega)) (by omega)]
      show v j + (v n * id9 (E j) (E n) + 0) = v j
      rw [id_n (fun h9 => e (hi j n (by omega) (by omega) h9.symm)), Int.mul_zero]
      omega
theorem cm_cf (hi : inj9 E n) (hs : spt9 l E n) : eq9 (cmb9 E n (fun j => cf9 l (E j))) l := fun γ => by
  by_cases c : ∃ j, j < n ∧ γ = E j
  · obtain ⟨j, h1, rfl⟩ := c
    exact cf_cy hi h1
  · rw [cf_cn (fun i hi9 h9 => c ⟨i, hi9, h9.symm⟩)]
    by_cases z : cf9 l γ = 0
    · exact z.symm
    · exact absurd (hs γ z) c
theorem sN_nz {h : Nat → Int} : ∀ {n : Nat}, sN9 h n ≠ 0 → ∃ i, i < n ∧ h i ≠ 0
  | 0, h9 => absurd rfl h9
  | n + 1, h9 => by
    by_cases c : h n = 0
    · have h9 : sN9 h n + h n ≠ 0 := h9
      rw [c, Int.add_zero] at h9
      obtain ⟨i, h1, h2⟩ := sN_nz h9
      exact ⟨i, by omega, h2⟩
    · exact ⟨n, by omega, c⟩
theorem sp_bd (hs : ∀ i, i < n → spt9 (f (E i)) E' n') : spt9 (bd9 f (cmb9 E n v)) E' n' := fun γ h => by
  rw [cf_bd, sm_cm] at h
  obtain ⟨i, h1, h2⟩ := sN_nz h
  exact hs i h1 γ (fun h9 => h2 (by rw [h9, Int.mul_zero]))
theorem ap_fun : ap9 (mtx9 f E E') n v = fun j => cf9 (bd9 f (cmb9 E n v)) (E' j) := funext (fun j => ap_mt j)
theorem ap_ap (hi : inj9 E' n') (hs : ∀ i, i < n → spt9 (f (E i)) E' n') (j : Nat) : ap9 (mtx9 g E' E'') n' (ap9 (mtx9 f E E') n v) j = cf9 (bd9 g (bd9 f (cmb9 E n v))) (E'' j) := by
  rw [ap_mt, ap_fun]
  exact bd_q (cm_cf hi (sp_bd hs)) _
/-- two ways alike on generators are alike -/
theorem bb_q {f1 g1 f2 g2 : gn9 → fc9} (h : ∀ i, i < n → eq9 (bd9 g1 (f1 (E i))) (bd9 g2 (f2 (E i)))) (γ : gn9) : cf9 (bd9 g1 (bd9 f1 (cmb9 E n v))) γ = cf9 (bd9 g2 (bd9 f2 (cmb9 E n v))) γ := by
  rw [cf_bd, cf_bd]
  have e : ∀ (f g : gn9 → fc9), smf9 (fun δ => cf9 (g δ) γ) (bd9 f (cmb9 E n v)) = sN9 (fun i => v i * cf9 (bd9 g (f (E i))) γ) n := fun f g => by
    rw [sm_bd, sm_cm]
    refine sN_cg (fun i _ => ?_)
    rw [cf_bd]
  rw [e, e]
  exact sN_cg (fun i hi => by rw [h i hi γ])
theorem bb_0 {f1 g1 : gn9 → fc9} (h : ∀ i, i < n → eq9 (bd9 g1 (f1 (E i))) []) (γ : gn9) : cf9 (bd9 g1 (bd9 f1 (cmb9 E n v))) γ = 0 := by
  rw [cf_bd, sm_bd, sm_cm]
  have : (fun i => v i * smf9 (fun δ => cf9 (g1 δ) γ) (f1 (E i))) = fun i => v i * cf9 (bd9 g1 (f1 (E i))) γ := funext (fun i => by rw [cf_bd])
  rw [this]
  have e : sN9 (fun i => v i * cf9 (bd9 g1 (f1 (E i))) γ) n = sN9 (fun _ => 0) n := sN_cg (fun i hi => by
    rw [h i hi γ]
    exact Int.mul_zero _)
  rw [e]
  exact sN_0
theorem zq_of {u w : vc9} (h : ∀ j, j < n → u j = w j) : zq9 p n u w := fun j hj => by
  rw [h j hj, Int.sub_self]
  exact Int.dvd_zero p
end XCHA
/-- a row of groups -/
def cx9 (E : Nat → Nat → gn9) (N : Nat → Nat) (D : gn9 → fc9) : Prop := (∀ r, inj9 (E r) (N r)) ∧ (∀ r i, i < N r → spt9 (D (E r i)) (E (r + 1)) (N (r + 1))) ∧ ∀ r i, i < N r → eq9 (bd9 D (D (E r i))) []
/-- the rank from group r to the next -/
noncomputable def rn9 (p : Int) (E : Nat → Nat → gn9) (N : Nat → Nat) (D : gn9 → fc9) (r : Nat) : Nat := rk9 p (N (r + 1)) (rwl9 (mtx9 D (E r) (E (r + 1))) (N r))
section XCHB
variable {p : Int} {E E' : Nat → Nat → gn9} {N N' : Nat → Nat} {D D' F h : gn9 → fc9}
theorem cx_dd (hC : cx9 E N D) (r : Nat) (v : vc9) : zq9 p (N (r + 2)) (ap9 (mtx9 D (E (r + 1)) (E (r + 2))) (N (r + 1)) (ap9 (mtx9 D (E r) (E (r + 1))) (N r) v)) (fun _ => 0) := zq_of (fun j _ => by
  rw [ap_ap (hC.1 (r + 1)) (hC.2.1 r)]
  exact bb_0 (hC.2.2 r) _)
/-- a projection whose kernel is spanned by the generators K and is acyclic by h -/
theorem subT (hp : pr9 p) (hi : iv9 p) (hC : cx9 E N D) (hC' : cx9 E' N' D') (K : gn9 → Prop) (fs : ∀ r i, i < N r → spt9 (F (E r i)) (E' r) (N' r)) (fc : ∀ r i, i < N r → eq9 (bd9 F (D (E r i))) (bd9 D' (F (E r i)))) (fo : ∀ r (u : vc9), ∃ v, ∀ j, j < N' r → cf9 (bd9 F (cmb9 (E r) (N r) v)) (E' r j) = u j) (fk : ∀ r (v : vc9), zq9 p (N' r) (fun j => cf9 (bd9 F (cmb9 (E r) (N r) v)) (E' r j)) (fun _ => 0) → ∀ i, i < N r → K (E r i) ∨ p ∣ v i) (hs : ∀ r i, i < N (r + 1) → spt9 (h (E (r + 1) i)) (E r) (N r)) (hF : ∀ r i, i < N (r + 1) → eq9 (bd9 F (h (E (r + 1) i))) []) (hh : ∀ r i, i < N (r + 1) → K (E (r + 1) i) → eq9 (bd9 D (h (E (r + 1) i)) ++ bd9 h (D (E (r + 1) i))) [(1, E (r + 1) i)]) (r : Nat) : N' (r + 1) + (rn9 p E N D (r + 1) + rn9 p E N D r) = N (r + 1) + (rn9 p E' N' D' (r + 1) + rn9 p E' N' D' r) := by
  -- what is taken to 0 by F and by D is an image
  have ac : ∀ r (v : vc9), zq9 p (N' (r + 1)) (ap9 (mtx9 F (E (r + 1)) (E' (r + 1))) (N (r + 1)) v) (fun _ => 0) → zq9 p (N (r + 2)) (ap9 (mtx9 D (E (r + 1)) (E (r + 2))) (N (r + 1)) v) (fun _ => 0) → zq9 p (N (r + 1)) v (ap9 (mtx9 D (E r) (E (r + 1))) (N r) (ap9 (mtx9 h (E (r + 1)) (E r)) (N (r + 1)) v)) := fun r v h1 h2 => by
    rw [ap_fun] at h1
    have k1 := fk (r + 1) v h1
    intro j hj
    rw [ap_ap (hC.1 r) (hs r)]
    -- D h v + h D v = v on K; h D v = 0
    have h3 : p ∣ cf9 (bd9 h (bd9 D (cmb9 (E (r + 1)) (N (r + 1)) v))) (E (r + 1) j) := by
      have q : zq9 p (N (r + 1)) (ap9 (mtx9 h (E (r + 2)) (E (r + 1))) (N (r + 2)) (ap9 (mtx9 D (E (r + 1)) (E (r + 2))) (N (r + 1)) v)) (fun _ => 0) := zq_t (ap_q h2) (fun t _ => by rw [ap_0, Int.sub_self]; exact Int.dvd_zero p)
      have := q j hj
      rw [ap_ap (hC.1 (r + 2)) (hC.2.1 (r + 1)), Int.sub_zero] at this
      exact this
    have e1 : ∀ f g : gn9 → fc9, cf9 (bd9 g (bd9 f (cmb9 (E (r + 1)) (N (r + 1)) v))) (E (r + 1) j) = sN9 (fun i => v i * cf9 (bd9 g (f (E (r + 1) i))) (E (r + 1) j)) (N (r + 1)) := fun f g => by
      rw [cf_bd, sm_bd, sm_cm]
      exact sN_cg (fun i _ => by rw [cf_bd])
    have dvN : ∀ (a : Nat → Int) (k : Nat), (∀ i, i < k → p ∣ a i) → p ∣ sN9 a k := fun a k => by
      induction k with
      | zero => intro _; exact Int.dvd_zero p
      | succ k ih => intro ha; exact Int.dvd_add (ih (fun i hi9 => ha i (by omega))) (ha k (by omega))
    have h4 : p ∣ sN9 (fun i => v i * (cf9 (bd9 D (h (E (r + 1) i))) (E (r + 1) j) + cf9 (bd9 h (D (E (r + 1) i))) (E (r + 1) j) - id9 (E (r + 1) j) (E (r + 1) i))) (N (r + 1)) := dvN _ _ (fun i hi9 => by
      rcases k1 i hi9 with k | k
      · have := hh r i hi9 k (E (r + 1) j)
        rw [cf_a] at this
        rw [this]
        show p ∣ v i * (1 * id9 (E (r + 1) j) (E (r + 1) i) + 0 - id9 (E (r + 1) j) (E (r + 1) i))
        rw [show (1 : Int) * id9 (E (r + 1) j) (E (r + 1) i) + 0 - id9 (E (r + 1) j) (E (r + 1) i) = 0 by omega, Int.mul_zero]
        exact Int.dvd_zero p
      · exact dvl9 _ k)
    have e2 : sN9 (fun i => v i * (cf9 (bd9 D (h (E (r + 1) i))) (E (r + 1) j) + cf9 (bd9 h (D (E (r + 1) i))) (E (r + 1) j) - id9 (E (r + 1) j) (E (r + 1) i))) (N (r + 1)) = cf9 (bd9 D (bd9 h (cmb9 (E (r + 1)) (N (r + 1)) v))) (E (r + 1) j) + cf9 (bd9 h (bd9 D (cmb9 (E (r + 1)) (N (r + 1)) v))) (E (r + 1) j) - v j := by
      rw [e1 h D, e1 D h, ← cf_cy (v := v) (hC.1 (r + 1)) hj, cf_cm, ← sN_a]
      have neg : ∀ (a b : Nat → Int) (k : Nat), sN9 a k - sN9 b k = sN9 (fun i => a i - b i) k := fun a b k => by
        induction k with
        | zero => rfl
        | succ k ih =>
          show sN9 a k + a k - (sN9 b k + b k) = sN9 (fun i => a i - b i) k + (a k - b k)
          rw [← ih]
          omega
      rw [neg]
      refine sN_cg (fun i _ => ?_)
      rw [Int.mul_sub, Int.mul_add]
    rw [e2] at h4
    have := Int.dvd_neg.mpr (Int.dvd_sub h4 h3)
    rw [show -(cf9 (bd9 D (bd9 h (cmb9 (E (r + 1)) (N (r + 1)) v))) (E (r + 1) j) + cf9 (bd9 h (bd9 D (cmb9 (E (r + 1)) (N (r + 1)) v))) (E (r + 1) j) - v j - cf9 (bd9 h (bd9 D (cmb9 (E (r + 1)) (N (r + 1)) v))) (E (r + 1) j)) = v j - cf9 (bd9 D (bd9 h (cmb9 (E (r + 1)) (N (r + 1)) v))) (E (r + 1) j) by omega] at this
    exact this
  have ch : ∀ r (v : vc9), zq9 p (N' (r + 1)) (ap9 (mtx9 F (E (r + 1)) (E' (r + 1))) (N (r + 1)) (ap9 (mtx9 D (E r) (E (r + 1))) (N r) v)) (ap9 (mtx9 D' (E' r) (E' (r + 1))) (N' r) (ap9 (mtx9 F (E r) (E' r)) (N r) v)) := fun r v => zq_of (fun j _ => by
    rw [ap_ap (hC.1 (r + 1)) (hC.2.1 r), ap_ap (hC'.1 r) (fs r)]
    exact bb_q (fc r) _)
  have on9 : ∀ r u, ∃ v, zq9 p (N' r) (ap9 (mtx9 F (E r) (E' r)) (N r) v) u := fun r u => by
    obtain ⟨v, hv⟩ := fo r u
    exact ⟨v, zq_of (fun j hj => by rw [ap_mt]; exact hv j hj)⟩
  refine sbx9 (f0 := mtx9 F (E r) (E' r)) (f1 := mtx9 F (E (r + 1)) (E' (r + 1))) (f2 := mtx9 F (E (r + 2)) (E' (r + 2))) hp hi (cx_dd hC r) (cx_dd hC' r) (ch r) (ch (r + 1)) (on9 r) (on9 (r + 1)) (fun v h1 h2 => ⟨_, ac r v h1 h2⟩) (fun v h1 => ?_)
  refine ⟨ap9 (mtx9 h (E (r + 2)) (E (r + 1))) (N (r + 2)) (ap9 (mtx9 D (E (r + 1)) (E (r + 2))) (N (r + 1)) v), ?_, ac (r + 1) _ h1 (cx_dd hC (r + 1) v)⟩
  refine zq_of (fun j hj => ?_)
  generalize ap9 (mtx9 D (E (r + 1)) (E (r + 2))) (N (r + 1)) v = w
  rw [ap_ap (hC.1 (r + 1)) (hs (r + 1))]
  exact bb_0 (hF (r + 1)) _
end XCHB
end
section
/-! 99zzzzzzzzzzzzzzzzyi.xch7 -/
/-! chain: an inclusion with an acyclic rest -/
section XCHC
variable {p : Int} {E E' : Nat → Nat → gn9} {N N' : Nat → Nat} {D D' f h : gn9 → fc9}
theorem dvN {a : Nat → Int} : ∀ {k : Nat}, (∀ i, i < k → p ∣ a i) → p ∣ sN9 a k
  | 0, _ => Int.dvd_zero p
  | k + 1, h => Int.dvd_add (dvN (fun i hi => h i (by omega))) (h k (by omega))
theorem sN_sub {a b : Nat → Int} : ∀ {k : Nat}, sN9 a k - sN9 b k = sN9 (fun i => a i - b i) k
  | 0 => rfl
  | k + 1 => by
    show sN9 a k + a k - (sN9 b k + b k) = sN9 (fun i => a i - b i) k + (a k - b k)
    rw [← sN_sub]
    omega
theorem quoT (hp : pr9 p) (hi : iv9 p) (hC : cx9 E N D) (hC' : cx9 E' N' D') (h0 : N 0 = 0) (S : gn9 → Prop) (fs : ∀ r i, i < N' r → spt9 (f (E' r i)) (E r) (N r)) (fc : ∀ r i, i < N' r → eq9 (bd9 f (D' (E' r i))) (bd9 D (f (E' r i)))) (fi : ∀ r (v : vc9), zq9 p (N r) (fun j => cf9 (bd9 f (cmb9 (E' r) (N' r) v)) (E r j)) (fun _ => 0) → zq9 p (N' r) v (fun _ => 0)) (fS : ∀ r (u : vc9), (∀ j, j < N r → S (E r j) ∨ p ∣ u j) → ∃ t, zq9 p (N r) u (fun j => cf9 (bd9 f (cmb9 (E' r) (N' r) t)) (E r j))) (fT : ∀ r (v : vc9) j, j < N r → S (E r j) ∨ cf9 (bd9 f (cmb9 (E' r) (N' r) v)) (E r j) = 0) (hs : ∀ r i, i < N (r + 1) → spt9 (h (E (r + 1) i)) (E r) (N r)) (hS : ∀ r i, i < N (r + 1) → S (E (r + 1) i) → eq9 (h (E (r + 1) i)) []) (sD : ∀ r i j, i < N r → j < N (r + 1) → S (E r i) → S (E (r + 1) j) ∨ cf9 (D (E r i)) (E (r + 1) j) = 0) (hh : ∀ r i j, i < N (r + 1) → j < N (r + 1) → S (E (r + 1) i) ∨ S (E (r + 1) j) ∨ cf9 (bd9 D (h (E (r + 1) i)) ++ bd9 h (D (E (r + 1) i))) (E (r + 1) j) = id9 (E (r + 1) j) (E (r + 1) i)) (r : Nat) : N (r + 1) + (rn9 p E' N' D' (r + 1) + rn9 p E' N' D' r) = N' (r + 1) + (rn9 p E N D (r + 1) + rn9 p E N D r) := by
  -- h of what lies in S is 0
  have hz : ∀ r (w : vc9), (∀ i, i < N (r + 1) → S (E (r + 1) i) ∨ p ∣ w i) → ∀ γ, p ∣ cf9 (bd9 h (cmb9 (E (r + 1)) (N (r + 1)) w)) γ := fun r w hw γ => by
    rw [cf_bd, sm_cm]
    refine dvN (fun i hi9 => ?_)
    rcases hw i hi9 with k | k
    · have h9 : cf9 (h (E (r + 1) i)) γ = 0 := hS r i hi9 k γ
      show p ∣ w i * cf9 (h (E (r + 1) i)) γ
      rw [h9, Int.mul_zero]
      exact Int.dvd_zero p
    · exact dvl9 _ k
  have ex : ∀ r (v u : vc9), zq9 p (N (r + 2)) (ap9 (mtx9 D (E (r + 1)) (E (r + 2))) (N (r + 1)) v) (ap9 (mtx9 f (E' (r + 2)) (E (r + 2))) (N' (r + 2)) u) → ∃ t w, zq9 p (N (r + 1)) v (fun i => ap9 (mtx9 f (E' (r + 1)) (E (r + 1))) (N' (r + 1)) t i + ap9 (mtx9 D (E r) (E (r + 1))) (N r) w i) := fun r v u hv => by
    have dS : ∀ i, i < N (r + 2) → S (E (r + 2) i) ∨ p ∣ ap9 (mtx9 D (E (r + 1)) (E (r + 2))) (N (r + 1)) v i := fun i hi9 => by
      rcases fT (r + 2) u i hi9 with k | k
      · exact Or.inl k
      · have := hv i hi9
        rw [ap_mt (f := f), k, Int.sub_zero] at this
        exact Or.inr this
    have hD0 := hz (r + 1) _ dS
    have key : ∀ j, j < N (r + 1) → S (E (r + 1) j) ∨ p ∣ v j - ap9 (mtx9 D (E r) (E (r + 1))) (N r) (ap9 (mtx9 h (E (r + 1)) (E r)) (N (r + 1)) v) j := fun j hj => by
      by_cases sj : S (E (r + 1) j)
      · exact Or.inl sj
      refine Or.inr ?_
      rw [ap_ap (hC.1 r) (hs r)]
      have h3 : p ∣ cf9 (bd9 h (bd9 D (cmb9 (E (r + 1)) (N (r + 1)) v))) (E (r + 1) j) := by
        have q := hD0 (E (r + 1) j)
        have e := ap_ap (g := h) (E'' := E (r + 1)) (v := v) (hC.1 (r + 2)) (hC.2.1 (r + 1)) j
        rw [ap_mt] at e
        rw [← e]
        exact q
      have e1 : ∀ f g : gn9 → fc9, cf9 (bd9 g (bd9 f (cmb9 (E (r + 1)) (N (r + 1)) v))) (E (r + 1) j) = sN9 (fun i => v i * cf9 (bd9 g (f (E (r + 1) i))) (E (r + 1) j)) (N (r + 1)) := fun f g => by
        rw [cf_bd, sm_bd, sm_cm]
        exact sN_cg (fun i _ => by rw [cf_bd])
      have h4 : p ∣ sN9 (fun i => v i * (cf9 (bd9 D (h (E (r + 1) i))) (E (r + 1) j) + cf9 (bd9 h (D (E (r + 1) i))) (E (r + 1) j) - id9 (E (r + 1) j) (E (r + 1) i))) (N (r + 1)) := dvN (fun i hi9 => by
        by_cases si : S (E (r + 1) i)
        · -- all three are 0
          have z1 : cf9 (bd9 D (h (E (r + 1) i))) (E (r + 1) j) = 0 := (bd_q (f := D) (hS r i hi9 si)) (E (r + 1) j)
          have z2 : cf9 (bd9 h (D (E (r + 1) i))) (E (r + 1) j) = 0 := by
            have c := cm_cf (hC.1 (r + 2)) (hC.2.1 (r + 1) i hi9)
            rw [← bd_q (f := h) c (E (r + 1) j), cf_bd, sm_cm]
            have : sN9 (fun t => cf9 (D (E (r + 1) i)) (E (r + 2) t) * cf9 (h (E (r + 2) t)) (E (r + 1) j)) (N (r + 2)) = sN9 (fun _ => 0) (N (r + 2)) := sN_cg (fun t ht => by
              rcases sD (r + 1) i t hi9 ht si with k | k
              · have h9 : cf9 (h (E (r + 2) t)) (E (r + 1) j) = 0 := hS (r + 1) t ht k _
                rw [h9, Int.mul_zero]
              · rw [k, Int.zero_mul])
            rw [this]
            exact sN_0
          have z3 : id9 (E (r + 1) j) (E (r + 1) i) = 0 := id_n (fun h9 => sj (by rw [← h9]; exact si))
          show p ∣ v i * (cf9 (bd9 D (h (E (r + 1) i))) (E (r + 1) j) + cf9 (bd9 h (D (E (r + 1) i))) (E (r + 1) j) - id9 (E (r + 1) j) (E (r + 1) i))
          rw [z1, z2, z3]
          exact dvr9 _ (Int.dvd_zero p)
        · rcases hh r i j hi9 hj with k | k | k
          · exact absurd k si
          · exact absurd k sj
          · rw [cf_a] at k
            show p ∣ v i * (cf9 (bd9 D (h (E (r + 1) i))) (E (r + 1) j) + cf9 (bd9 h (D (E (r + 1) i))) (E (r + 1) j) - id9 (E (r + 1) j) (E (r + 1) i))
            rw [k, Int.sub_self]
            exact dvr9 _ (Int.dvd_zero p))
      have e2 : sN9 (fun i => v i * (cf9 (bd9 D (h (E (r + 1) i))) (E (r + 1) j) + cf9 (bd9 h (D (E (r + 1) i))) (E (r + 1) j) - id9 (E (r + 1) j) (E (r + 1) i))) (N (r + 1)) = cf9 (bd9 D (bd9 h (cmb9 (E (r + 1)) (N (r + 1)) v))) (E (r + 1) j) + cf9 (bd9 h (bd9 D (cmb9 (E (r + 1)) (N (r + 1)) v))) (E (r + 1) j) - v j := by
        rw [e1 h D, e1 D h, ← cf_cy (v := v) (hC.1 (r + 1)) hj, cf_cm, ← sN_a, sN_sub]
        refine sN_cg (fun i _ => ?_)
        rw [Int.mul_sub, Int.mul_add]
      rw [e2] at h4
      have := Int.dvd_neg.mpr (Int.dvd_sub h4 h3)
      rw [show -(cf9 (bd9 D (bd9 h (cmb9 (E (r + 1)) (N (r + 1)) v))) (E (r + 1) j) + cf9 (bd9 h (bd9 D (cmb9 (E (r + 1)) (N (r + 1)) v))) (E (r + 1) j) - v j - cf9 (bd9 h (bd9 D (cmb9 (E (r + 1)) (N (r + 1)) v))) (E (r + 1) j)) = v j - cf9 (bd9 D (bd9 h (cmb9 (E (r + 1)) (N (r + 1)) v))) (E (r + 1) j) by omega] at this
      exact this
    obtain ⟨t, ht⟩ := fS (r + 1) (fun j => v j - ap9 (mtx9 D (E r) (E (r + 1))) (N r) (ap9 (mtx9 h (E (r + 1)) (E r)) (N (r + 1)) v) j) key
    refine ⟨t, ap9 (mtx9 h (E (r + 1)) (E r)) (N (r + 1)) v, fun i hi9 => ?_⟩
    have := ht i hi9
    show p ∣ v i - (ap9 (mtx9 f (E' (r + 1)) (E (r + 1))) (N' (r + 1)) t i + ap9 (mtx9 D (E r) (E (r + 1))) (N r) (ap9 (mtx9 h (E (r + 1)) (E r)) (N (r + 1)) v) i)
    rw [ap_mt (f := f)]
    show p ∣ v i - (cf9 (bd9 f (cmb9 (E' (r + 1)) (N' (r + 1)) t)) (E (r + 1) i) + ap9 (mtx9 D (E r) (E (r + 1))) (N r) (ap9 (mtx9 h (E (r + 1)) (E r)) (N (r + 1)) v) i)
    rw [show v i - (cf9 (bd9 f (cmb9 (E' (r + 1)) (N' (r + 1)) t)) (E (r + 1) i) + ap9 (mtx9 D (E r) (E (r + 1))) (N r) (ap9 (mtx9 h (E (r + 1)) (E r)) (N (r + 1)) v) i) = v i - ap9 (mtx9 D (E r) (E (r + 1))) (N r) (ap9 (mtx9 h (E (r + 1)) (E r)) (N (r + 1)) v) i - cf9 (bd9 f (cmb9 (E' (r + 1)) (N' (r + 1)) t)) (E (r + 1) i) by omega]
    exact this
  have ch : ∀ r (v : vc9), zq9 p (N (r + 1)) (ap9 (mtx9 f (E' (r + 1)) (E (r + 1))) (N' (r + 1)) (ap9 (mtx9 D' (E' r) (E' (r + 1))) (N' r) v)) (ap9 (mtx9 D (E r) (E (r + 1))) (N r) (ap9 (mtx9 f (E' r) (E r)) (N' r) v)) := fun r v => zq_of (fun j _ => by
    rw [ap_ap (hC'.1 (r + 1)) (hC'.2.1 r), ap_ap (hC.1 r) (fs r)]
    exact bb_q (fc r) _)
  have inj : ∀ r v, zq9 p (N r) (ap9 (mtx9 f (E' r) (E r)) (N' r) v) (fun _ => 0) → zq9 p (N' r) v (fun _ => 0) := fun r v h9 => fi r v (by
    rw [ap_fun] at h9
    exact h9)
  refine quo9 (f0 := mtx9 f (E' r) (E r)) (f1 := mtx9 f (E' (r + 1)) (E (r + 1))) (f2 := mtx9 f (E' (r + 2)) (E (r + 2))) hp hi (cx_dd hC r) (cx_dd hC' r) (ch r) (ch (r + 1)) (inj (r + 1)) (inj (r + 2)) (ex r) (fun v u hv => ?_)
  cases r with
  | zero =>
    refine ⟨fun _ => 0, ?_⟩
    rw [h0]
    exact zq_r
  | succ r =>
    obtain ⟨t, w, h1⟩ := ex r v u hv
    refine ⟨t, zq_t (ap_q h1) (fun j hj => ?_)⟩
    rw [ap_add]
    have := cx_dd (p := p) hC r w j hj
    rw [show ap9 (mtx9 D (E (r + 1)) (E (r + 1 + 1))) (N (r + 1)) (ap9 (mtx9 f (E' (r + 1)) (E (r + 1))) (N' (r + 1)) t) j + ap9 (mtx9 D (E (r + 1)) (E (r + 1 + 1))) (N (r + 1)) (ap9 (mtx9 D (E r) (E (r + 1))) (N r) w) j - ap9 (mtx9 D (E (r + 1)) (E (r + 1 + 1))) (N (r + 1)) (ap9 (mtx9 f (E' (r + 1)) (E (r + 1))) (N' (r + 1)) t) j = ap9 (mtx9 D (E (r + 1)) (E (r + 1 + 1))) (N (r + 1)) (ap9 (mtx9 D (E r) (E (r + 1))) (N r) w) j - 0 by omega]
    exact this
end XCHC
end
section
/-! 99zzzzzzzzzzzzzzzzyj.xch8 -/
/-! chain: a kink whose loop is apart before it is turned -/
def off9 (s : Nat → Bool) (x : Nat) : Nat → Bool := fun y => if y = x then false else s y
def clr9 (m : Nat → Bool) (o : Nat) : Nat → Bool := fun g => if g = o then false else m g
def rh9 (n o : Nat) (γ : gn9) : gn9 := (off9 γ.1 n, clr9 γ.2 o)
def vl9 (rel : (Nat → Bool) → Nat → Nat → Prop) (γ : gn9) : Prop := ∀ g h, rel γ.1 g h → γ.2 g = γ.2 h
section XCHD
variable {n o : Nat} {P1 P2 P3 : Nat → Nat} {rel : (Nat → Bool) → Nat → Nat → Prop} {f : gn9 → fc9} {κ : gn9 → gn9} {l : fc9} {c : Int} {γ : gn9}
theorem off_f {s : Nat → Bool} {x : Nat} (h : s x = false) : off9 s x = s := funext (fun y => by
  unfold off9
  by_cases e : y = x
  · rw [if_pos e, e, h]
  · rw [if_neg e])
theorem off_x {s : Nat → Bool} {x : Nat} : off9 s x x = false := if_pos rfl
theorem off_o {s : Nat → Bool} {x y : Nat} (h : y ≠ x) : off9 s x y = s y := if_neg h
theorem on_off {s : Nat → Bool} {x : Nat} (h : s x = true) : on9 (off9 s x) x = s := funext (fun y => by
  unfold on9 off9
  by_cases e : y = x
  · rw [if_pos e, e, h]
  · rw [if_neg e, if_neg e])
theorem off_on {s : Nat → Bool} {x y : Nat} (h : y ≠ x) : off9 (on9 s y) x = on9 (off9 s x) y := funext (fun z => by
  unfold on9 off9
  by_cases e : z = x
  · rw [if_pos e, if_pos e, if_neg (fun h9 => h (h9.symm.trans e))]
  · rw [if_neg e, if_neg e])
theorem off_on2 {s : Nat → Bool} {x : Nat} (h : s x = false) : off9 (on9 s x) x = s := funext (fun z => by
  by_cases e : z = x
  · rw [e, off_x, h]
  · rw [off_o e, on_o e])
theorem clr_o (m : Nat → Bool) (o : Nat) : clr9 m o o = false := if_pos rfl
theorem clr_n {m : Nat → Bool} {o g : Nat} (h : g ≠ o) : clr9 m o g = m g := if_neg h
theorem par_off {s : Nat → Bool} {x : Nat} : ∀ {y : Nat}, y ≤ x → par9 (off9 s x) y = par9 s y
  | 0, _ => rfl
  | y + 1, h => by
    show (if off9 s x y = true then -par9 (off9 s x) y else par9 (off9 s x) y) = if s y = true then -par9 s y else par9 s y
    rw [off_o (by omega), par_off (by omega)]
theorem par_2 (s : Nat → Bool) : ∀ x, par9 s x * par9 s x = 1
  | 0 => rfl
  | x + 1 => by
    show (if s x = true then -par9 s x else par9 s x) * (if s x = true then -par9 s x else par9 s x) = 1
    split
    · rw [Int.neg_mul_neg]
      exact par_2 s x
    · exact par_2 s x
theorem bd_map (h : ∀ q, q ∈ l → f q.2 = [(c, κ q.2)]) : eq9 (bd9 f l) (scf9 c (l.map (fun q => (q.1, κ q.2)))) := fun γ => by
  rw [cf_bd, cf_sc]
  induction l with
  | nil => exact (Int.mul_zero c).symm
  | cons q l ih =>
    show q.1 * cf9 (f q.2) γ + smf9 (fun δ => cf9 (f δ) γ) l = c * (q.1 * id9 γ (κ q.2) + cf9 (l.map (fun q => (q.1, κ q.2))) γ)
    rw [ih (fun t ht => h t (List.mem_cons_of_mem _ ht)), h q List.mem_cons_self]
    show q.1 * (c * id9 γ (κ q.2) + 0) + _ = _
    rw [Int.add_zero, Int.mul_add, ← Int.mul_assoc, ← Int.mul_assoc, Int.mul_comm q.1 c]
theorem bd_nil (h : ∀ q, q ∈ l → f q.2 = []) : eq9 (bd9 f l) [] := fun γ => by
  rw [cf_bd]
  induction l with
  | nil => rfl
  | cons q l ih =>
    show q.1 * cf9 (f q.2) γ + smf9 (fun δ => cf9 (f δ) γ) l = 0
    rw [ih (fun t ht => h t (List.mem_cons_of_mem _ ht)), h q List.mem_cons_self]
    show q.1 * 0 + 0 = 0
    rw [Int.mul_zero]
    rfl
/-- what D's terms look like -/
theorem Dx_st {x : Nat} {q : Int × gn9} (h : q ∈ Dx9 P1 P2 P3 rel x γ) : q.2.1 = on9 γ.1 x := by
  unfold Dx9 at h
  split at h
  · split at h
    · rw [List.mem_singleton.mp h]
    · rcases List.mem_cons.mp h with e | e
      · rw [e]
      · rw [List.mem_singleton.mp e]
  · split at h
    · exact absurd h List.not_mem_nil
    · rw [List.mem_singleton.mp h]
theorem D_st {q : Int × gn9} : ∀ {k : Nat}, q ∈ D9 P1 P2 P3 rel k γ → ∃ y, y < k ∧ γ.1 y = false ∧ q.2.1 = on9 γ.1 y ∧ ∃ c, (c, q.2) ∈ Dx9 P1 P2 P3 rel y γ
  | 0, h => absurd h List.not_mem_nil
  | k + 1, h => by
    rcases List.mem_append.mp h with h1 | h1
    · obtain ⟨y, a, b⟩ := D_st h1
      exact ⟨y, by omega, b⟩
    · by_cases c : γ.1 k = true
      · rw [if_pos c] at h1
        exact absurd h1 List.not_mem_nil
      · rw [if_neg c] at h1
        obtain ⟨r, h2, rfl⟩ := List.mem_map.mp h1
        exact ⟨k, by omega, by cases h : γ.1 k <;> simp_all, show r.2.1 = on9 γ.1 k from Dx_st h2, r.1, h2⟩
end XCHD
end
