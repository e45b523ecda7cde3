/-! chain: sums of generators; the cube of states -/
noncomputable def dcb (P : Prop) : Bool := @decide P (Classical.propDecidable P)
theorem dcb_t {P : Prop} : dcb P = true ↔ P := ⟨fun h => @of_decide_eq_true P (Classical.propDecidable P) h, fun h => @decide_eq_true P (Classical.propDecidable P) h⟩
theorem dcb_f {P : Prop} : dcb P = false ↔ ¬ P := ⟨fun h h9 => Bool.noConfusion ((dcb_t.mpr h9).symm.trans h), fun h => @decide_eq_false P (Classical.propDecidable P) h⟩
theorem dcb_c {P Q : Prop} (h : P ↔ Q) : dcb P = dcb Q := by
  by_cases c : P
  · rw [dcb_t.mpr c, dcb_t.mpr (h.mp c)]
  · rw [dcb_f.mpr c, dcb_f.mpr (fun h9 => c (h.mpr h9))]
/-- a generator: a state, and the gaps of the loops with minus -/
abbrev gn9 : Type := (Nat → Bool) × (Nat → Bool)
abbrev fc9 : Type := List (Int × gn9)
def smf9 (φ : gn9 → Int) : fc9 → Int
  | [] => 0
  | q :: l => q.1 * φ q.2 + smf9 φ l
noncomputable def id9 (γ δ : gn9) : Int := if dcb (δ = γ) = true then 1 else 0
noncomputable def cf9 (l : fc9) (γ : gn9) : Int := smf9 (id9 γ) l
def eq9 (l l' : fc9) : Prop := ∀ γ, cf9 l γ = cf9 l' γ
def scf9 (c : Int) (l : fc9) : fc9 := l.map (fun q => (c * q.1, q.2))
def bd9 (f : gn9 → fc9) : fc9 → fc9
  | [] => []
  | q :: l => scf9 q.1 (f q.2) ++ bd9 f l
section XCH5
variable {φ ψ : gn9 → Int} {l l' k k' : fc9} {f : gn9 → fc9}
theorem sm_a : ∀ {l l' : fc9}, smf9 φ (l ++ l') = smf9 φ l + smf9 φ l'
  | [], l' => by
    show smf9 φ l' = 0 + smf9 φ l'
    omega
  | q :: l, l' => by
    show q.1 * φ q.2 + smf9 φ (l ++ l') = q.1 * φ q.2 + smf9 φ l + smf9 φ l'
    rw [sm_a]
    omega
theorem sm_sc (c : Int) : ∀ {l : fc9}, smf9 φ (scf9 c l) = c * smf9 φ l
  | [] => (Int.mul_zero c).symm
  | q :: l => by
    show c * q.1 * φ q.2 + smf9 φ (scf9 c l) = c * (q.1 * φ q.2 + smf9 φ l)
    rw [sm_sc c, Int.mul_add, Int.mul_assoc]
theorem sm_bd : ∀ {l : fc9}, smf9 φ (bd9 f l) = smf9 (fun γ => smf9 φ (f γ)) l
  | [] => rfl
  | q :: l => by
    show smf9 φ (scf9 q.1 (f q.2) ++ bd9 f l) = q.1 * smf9 φ (f q.2) + smf9 (fun γ => smf9 φ (f γ)) l
    rw [sm_a, sm_sc, sm_bd]
theorem id_y (γ : gn9) : id9 γ γ = 1 := if_pos (dcb_t.mpr rfl)
theorem id_n {γ δ : gn9} (h : δ ≠ γ) : id9 γ δ = 0 := if_neg (fun h9 => h (dcb_t.mp h9))
/-- the rest without γ -/
noncomputable def wo9 (γ : gn9) : fc9 → fc9
  | [] => []
  | q :: l => if dcb (q.2 = γ) = true then wo9 γ l else q :: wo9 γ l
theorem wo_l (γ : gn9) : ∀ l : fc9, (wo9 γ l).length ≤ l.length
  | [] => Nat.le_refl 0
  | q :: l => by
    have ih := wo_l γ l
    show (if dcb (q.2 = γ) = true then wo9 γ l else q :: wo9 γ l).length ≤ l.length + 1
    split
    · omega
    · rw [List.length_cons]
      omega
theorem wo_s (γ : gn9) : ∀ l : fc9, smf9 φ l = φ γ * cf9 l γ + smf9 φ (wo9 γ l)
  | [] => by
    show (0 : Int) = φ γ * 0 + 0
    rw [Int.mul_zero]
    rfl
  | q :: l => by
    have ih := wo_s γ l
    show q.1 * φ q.2 + smf9 φ l = φ γ * (q.1 * id9 γ q.2 + cf9 l γ) + smf9 φ (if dcb (q.2 = γ) = true then wo9 γ l else q :: wo9 γ l)
    by_cases c : q.2 = γ
    · rw [if_pos (dcb_t.mpr c), c, id_y, Int.mul_one, Int.mul_add, ih, Int.mul_comm (φ γ) q.1]
      omega
    · rw [if_neg (fun h9 => c (dcb_t.mp h9)), id_n c, Int.mul_zero, Int.zero_add, ih]
      show _ = _ + (q.1 * φ q.2 + smf9 φ (wo9 γ l))
      omega
theorem wo_c {γ δ : gn9} (l : fc9) : cf9 (wo9 γ l) δ = if dcb (δ = γ) = true then 0 else cf9 l δ := by
  have h := wo_s (φ := id9 δ) γ l
  by_cases c : δ = γ
  · rw [if_pos (dcb_t.mpr c)]
    rw [← c, id_y, Int.one_mul] at h
    rw [← c]
    have h : cf9 l δ = cf9 l δ + cf9 (wo9 δ l) δ := h
    omega
  · rw [if_neg (fun h9 => c (dcb_t.mp h9))]
    rw [id_n (fun h9 => c h9.symm), Int.zero_mul, Int.zero_add] at h
    exact h.symm
theorem sm_0 : ∀ (n : Nat) (l : fc9), l.length ≤ n → (∀ γ, cf9 l γ = 0) → smf9 φ l = 0
  | _, [], _, _ => rfl
  | 0, q :: l, h, _ => absurd h (by rw [List.length_cons]; omega)
  | n + 1, q :: l, h, hz => by
    rw [wo_s (φ := φ) q.2 (q :: l), hz, Int.mul_zero, Int.zero_add]
    refine sm_0 n _ ?_ (fun γ => ?_)
    · have h1 := wo_l q.2 l
      show (if dcb (q.2 = q.2) = true then wo9 q.2 l else q :: wo9 q.2 l).length ≤ n
      rw [if_pos (dcb_t.mpr rfl)]
      rw [List.length_cons] at h
      omega
    · rw [wo_c, hz]
      split
      · rfl
      · rfl
theorem sm_q (h : eq9 l l') : smf9 φ l = smf9 φ l' := by
  have h1 := sm_0 (φ := φ) _ (l ++ scf9 (-1) l') (Nat.le_refl _) (fun γ => by
    show smf9 (id9 γ) (l ++ scf9 (-1) l') = 0
    rw [sm_a, sm_sc]
    have h2 : smf9 (id9 γ) l = smf9 (id9 γ) l' := h γ
    rw [h2]
    omega)
  rw [sm_a, sm_sc] at h1
  omega
theorem cf_a (γ : gn9) : cf9 (l ++ l') γ = cf9 l γ + cf9 l' γ := sm_a
theorem cf_sc (c : Int) (γ : gn9) : cf9 (scf9 c l) γ = c * cf9 l γ := sm_sc c
theorem eq_r : eq9 l l := fun _ => rfl
theorem eq_s (h : eq9 l l') : eq9 l' l := fun γ => (h γ).symm
theorem eq_t (h : eq9 l l') (h2 : eq9 l' k) : eq9 l k := fun γ => (h γ).trans (h2 γ)
theorem eq_a (h : eq9 l l') (h2 : eq9 k k') : eq9 (l ++ k) (l' ++ k') := fun γ => by rw [cf_a, cf_a, h γ, h2 γ]
theorem eq_sc (c : Int) (h : eq9 l l') : eq9 (scf9 c l) (scf9 c l') := fun γ => by rw [cf_sc, cf_sc, h γ]
theorem eq_cm : eq9 (l ++ k) (k ++ l) := fun γ => by rw [cf_a, cf_a]; omega
theorem bd_q (h : eq9 l l') : eq9 (bd9 f l) (bd9 f l') := fun γ => by
  show smf9 (id9 γ) (bd9 f l) = smf9 (id9 γ) (bd9 f l')
  rw [sm_bd, sm_bd]
  exact sm_q h
theorem bd_a (h : bd9 f (l ++ k) = bd9 f (l ++ k)) : eq9 (bd9 f (l ++ k)) (bd9 f l ++ bd9 f k) := fun γ => by
  rw [cf_a]
  show smf9 (id9 γ) (bd9 f (l ++ k)) = smf9 (id9 γ) (bd9 f l) + smf9 (id9 γ) (bd9 f k)
  rw [sm_bd, sm_bd, sm_bd, sm_a]
theorem bd_1 (γ : gn9) : eq9 (bd9 f [(1, γ)]) (f γ) := fun δ => by
  show smf9 (id9 δ) (bd9 f [(1, γ)]) = smf9 (id9 δ) (f γ)
  rw [sm_bd]
  show 1 * smf9 (id9 δ) (f γ) + 0 = _
  omega
end XCH5
/-- two classes made one -/
def adr (R : Nat → Nat → Prop) (a b g h : Nat) : Prop := R g h ∨ R g a ∧ R h b ∨ R g b ∧ R h a
def on9 (s : Nat → Bool) (x : Nat) : Nat → Bool := fun y => if y = x then true else s y
def eqv9 (R : Nat → Nat → Prop) : Prop := (∀ g, R g g) ∧ (∀ g h, R g h → R h g) ∧ ∀ g h k, R g h → R h k → R g k
section XCH6
variable {R Q : Nat → Nat → Prop} {a b c d g h : Nat}
theorem adr_e (hR : eqv9 R) : eqv9 (adr R a b) := by
  obtain ⟨r1, r2, r3⟩ := hR
  refine ⟨fun g => Or.inl (r1 g), fun g h h9 => ?_, fun g h k h1 h2 => ?_⟩
  · rcases h9 with h9 | ⟨h8, h9⟩ | ⟨h8, h9⟩
    · exact Or.inl (r2 _ _ h9)
    · exact Or.inr (Or.inr ⟨h9, h8⟩)
    · exact Or.inr (Or.inl ⟨h9, h8⟩)
  · rcases h1 with h1 | ⟨h1, h3⟩ | ⟨h1, h3⟩
    · rcases h2 with h2 | ⟨h2, h4⟩ | ⟨h2, h4⟩
      · exact Or.inl (r3 _ _ _ h1 h2)
      · exact Or.inr (Or.inl ⟨r3 _ _ _ h1 h2, h4⟩)
      · exact Or.inr (Or.inr ⟨r3 _ _ _ h1 h2, h4⟩)
    · rcases h2 with h2 | ⟨h2, h4⟩ | ⟨h2, h4⟩
      · exact Or.inr (Or.inl ⟨h1, r3 _ _ _ (r2 _ _ h2) h3⟩)
      · exact Or.inr (Or.inl ⟨h1, h4⟩)
      · exact Or.inl (r3 _ _ _ h1 (r2 _ _ h4))
    · rcases h2 with h2 | ⟨h2, h4⟩ | ⟨h2, h4⟩
      · exact Or.inr (Or.inr ⟨h1, r3 _ _ _ (r2 _ _ h2) h3⟩)
      · exact Or.inl (r3 _ _ _ h1 (r2 _ _ h4))
      · exact Or.inr (Or.inr ⟨h1, h4⟩)
theorem adr_ab (hR : eqv9 R) : adr R a b a b := Or.inr (Or.inl ⟨hR.1 a, hR.1 b⟩)
/-- nothing lies between a relation and the one with two classes made one -/
theorem adr_bt (hR : eqv9 R) (hQ : eqv9 Q) (h1 : ∀ g h, R g h → Q g h) (h2 : ∀ g h, Q g h → adr R a b g h) (hc : Q c d) (hn : ¬ R c d) : ∀ g h, adr R a b g h → Q g h := by
  have hab : Q a b := by
    rcases h2 c d hc with h9 | ⟨h8, h9⟩ | ⟨h8, h9⟩
    · exact absurd h9 hn
    · exact hQ.2.2 _ _ _ (hQ.2.1 _ _ (h1 _ _ h8)) (hQ.2.2 _ _ _ hc (h1 _ _ h9))
    · exact hQ.2.2 _ _ _ (hQ.2.1 _ _ (h1 _ _ h9)) (hQ.2.2 _ _ _ (hQ.2.1 _ _ hc) (h1 _ _ h8))
  intro g h h9
  rcases h9 with h9 | ⟨h8, h9⟩ | ⟨h8, h9⟩
  · exact h1 _ _ h9
  · exact hQ.2.2 _ _ _ (h1 _ _ h8) (hQ.2.2 _ _ _ hab (hQ.2.1 _ _ (h1 _ _ h9)))
  · exact hQ.2.2 _ _ _ (h1 _ _ h8) (hQ.2.2 _ _ _ (hQ.2.1 _ _ hab) (hQ.2.1 _ _ (h1 _ _ h9)))
end XCH6
/-- a cube of partitions of the gaps -/
def cub9 (n : Nat) (P1 P2 P3 : Nat → Nat) (rel : (Nat → Bool) → Nat → Nat → Prop) : Prop := (∀ s, eqv9 (rel s)) ∧ ∀ s x, x < n → s x = false → (¬ rel s (P1 x) (P3 x) ∧ ∀ g h, rel (on9 s x) g h ↔ adr (rel s) (P1 x) (P3 x) g h) ∨ (rel s (P1 x) (P3 x) ∧ ¬ rel (on9 s x) (P1 x) (P2 x) ∧ ∀ g h, rel s g h ↔ adr (rel (on9 s x)) (P1 x) (P2 x) g h)
noncomputable def inm9 (rel : (Nat → Bool) → Nat → Nat → Prop) (s : Nat → Bool) (T : List Nat) : Nat → Bool := fun g => dcb (∃ h, h ∈ T ∧ rel s g h)
def fe9 (rel : (Nat → Bool) → Nat → Nat → Prop) (s : Nat → Bool) (T : List Nat) : Prop := T.Pairwise (fun g h => ¬ rel s g h)
noncomputable def mo9 (rel : (Nat → Bool) → Nat → Nat → Prop) (s : Nat → Bool) (T : List Nat) : fc9 := if dcb (fe9 rel s T) = true then [(1, (s, inm9 rel s T))] else []
/-- one crossing turned, on a generator -/
noncomputable def Dx9 (P1 P2 P3 : Nat → Nat) (rel : (Nat → Bool) → Nat → Nat → Prop) (x : Nat) (γ : gn9) : fc9 := if dcb (rel γ.1 (P1 x) (P3 x)) = true then (if γ.2 (P1 x) = true then [(1, (on9 γ.1 x, γ.2))] else [(1, (on9 γ.1 x, fun g => γ.2 g || dcb (rel (on9 γ.1 x) g (P1 x)))), (1, (on9 γ.1 x, fun g => γ.2 g || dcb (rel (on9 γ.1 x) g (P2 x))))]) else (if γ.2 (P1 x) = true ∧ γ.2 (P3 x) = true then [] else [(1, (on9 γ.1 x, fun g => γ.2 g || ((γ.2 (P1 x) || γ.2 (P3 x)) && dcb (rel (on9 γ.1 x) g (P1 x)))))])
noncomputable def mx9 (P1 P2 P3 : Nat → Nat) (rel : (Nat → Bool) → Nat → Nat → Prop) (x : Nat) (s : Nat → Bool) (T : List Nat) : fc9 := if dcb (rel s (P1 x) (P3 x)) = true then mo9 rel (on9 s x) (P1 x :: T) ++ mo9 rel (on9 s x) (P2 x :: T) else mo9 rel (on9 s x) T
section XCH7
variable {n x : Nat} {P1 P2 P3 : Nat → Nat} {rel : (Nat → Bool) → Nat → Nat → Prop} {s : Nat → Bool} {T : List Nat}
theorem mo_y (h : fe9 rel s T) : mo9 rel s T = [(1, (s, inm9 rel s T))] := if_pos (dcb_t.mpr h)
theorem mo_n9 (h : ¬ fe9 rel s T) : mo9 rel s T = [] := if_neg (fun h9 => h (dcb_t.mp h9))
theorem in_t {g : Nat} : inm9 rel s T g = true ↔ ∃ h, h ∈ T ∧ rel s g h := dcb_t
theorem in_f {g : Nat} : inm9 rel s T g = false ↔ ¬ ∃ h, h ∈ T ∧ rel s g h := dcb_f
theorem bx {a b : Bool} (h : a = true ↔ b = true) : a = b := by
  cases a <;> cases b <;> simp at h <;> rfl
theorem fe_sub {s t : Nat → Bool} (h : ∀ g k, rel t g k → rel s g k) (hf : fe9 rel s T) : fe9 rel t T := List.Pairwise.imp (fun {a b} h1 h2 => h1 (h a b h2)) hf
/-- one of two in one class -/
theorem fe_one (hE : eqv9 (rel s)) : ∀ {T : List Nat} {g h : Nat}, fe9 rel s T → g ∈ T → h ∈ T → rel s g h → g = h
  | [], g, h, _, hg, _, _ => absurd hg List.not_mem_nil
  | t :: T, g, h, hf, hg, hh, hr => by
    obtain ⟨f1, f2⟩ := List.pairwise_cons.mp hf
    rcases List.mem_cons.mp hg with e | e
    · rcases List.mem_cons.mp hh with e9 | e9
      · rw [e, e9]
      · rw [e] at hr
        exact absurd hr (f1 h e9)
    · rcases List.mem_cons.mp hh with e9 | e9
      · rw [e9] at hr
        exact absurd (hE.2.1 _ _ hr) (f1 g e)
      · exact fe_one hE f2 e e9 hr
theorem dx_mo (hC : cub9 n P1 P2 P3 rel) (hx : x < n) (hs : s x = false) (T : List Nat) : eq9 (bd9 (Dx9 P1 P2 P3 rel x) (mo9 rel s T)) (mx9 P1 P2 P3 rel x s T) := by
  have hE := hC.1 s
  have hF := hC.1 (on9 s x)
  rcases hC.2 s x hx hs with ⟨hm, hr⟩ | ⟨hm, hn, hr⟩
  · -- two loops become one
    have e1 : mx9 P1 P2 P3 rel x s T = mo9 rel (on9 s x) T := if_neg (fun h9 => hm (dcb_t.mp h9))
    rw [e1]
    by_cases hf : fe9 rel s T
    · rw [mo_y hf]
      refine eq_t (bd_1 _) ?_
      have e2 : Dx9 P1 P2 P3 rel x (s, inm9 rel s T) = (if inm9 rel s T (P1 x) = true ∧ inm9 rel s T (P3 x) = true then [] else [(1, (on9 s x, fun g => inm9 rel s T g || ((inm9 rel s T (P1 x) || inm9 rel s T (P3 x)) && dcb (rel (on9 s x) g (P1 x)))))]) := if_neg (fun h9 => hm (dcb_t.mp h9))
      rw [e2]
      by_cases c : inm9 rel s T (P1 x) = true ∧ inm9 rel s T (P3 x) = true
      · rw [if_pos c]
        obtain ⟨h1, t1, r1⟩ := in_t.mp c.1
        obtain ⟨h3, t3, r3⟩ := in_t.mp c.2
        rw [mo_n9 (fun h9 => ?_)]
        · exact eq_r
        · have e9 := fe_one hF h9 t1 t3 ((hr _ _).mpr (Or.inr (Or.inl ⟨hE.2.1 _ _ r1, hE.2.1 _ _ r3⟩)))
          rw [← e9] at r3
          exact hm (hE.2.2 _ _ _ r1 (hE.2.1 _ _ r3))
      · rw [if_neg c]
        have hft : fe9 rel (on9 s x) T := by
          refine List.Pairwise.imp_of_mem (fun {a b} ha hb h1 h2 => ?_) hf
          rcases (hr a b).mp h2 with h3 | ⟨h3, h4⟩ | ⟨h3, h4⟩
          · exact h1 h3
          · exact c ⟨in_t.mpr ⟨a, ha, hE.2.1 _ _ h3⟩, in_t.mpr ⟨b, hb, hE.2.1 _ _ h4⟩⟩
          · exact c ⟨in_t.mpr ⟨b, hb, hE.2.1 _ _ h4⟩, in_t.mpr ⟨a, ha, hE.2.1 _ _ h3⟩⟩
        rw [mo_y hft]
        have e3 : (fun g => inm9 rel s T g || ((inm9 rel s T (P1 x) || inm9 rel s T (P3 x)) && dcb (rel (on9 s x) g (P1 x)))) = inm9 rel (on9 s x) T := funext (fun g => bx (by
          rw [in_t, Bool.or_eq_true, Bool.and_eq_true, Bool.or_eq_true, in_t, in_t, in_t, dcb_t]
          have p13 : rel (on9 s x) (P1 x) (P3 x) := (hr _ _).mpr (adr_ab hE)
          constructor
          · rintro (⟨h, t, r⟩ | ⟨⟨h, t, r⟩ | ⟨h, t, r⟩, q⟩)
            · exact ⟨h, t, (hr _ _).mpr (Or.inl r)⟩
            · exact ⟨h, t, hF.2.2 _ _ _ q ((hr _ _).mpr (Or.inl r))⟩
            · exact ⟨h, t, hF.2.2 _ _ _ q (hF.2.2 _ _ _ p13 ((hr _ _).mpr (Or.inl r)))⟩
          · rintro ⟨h, t, r⟩
            rcases (hr g h).mp r with h3 | ⟨h3, h4⟩ | ⟨h3, h4⟩
            · exact Or.inl ⟨h, t, h3⟩
            · exact Or.inr ⟨Or.inr ⟨h, t, hE.2.1 _ _ h4⟩, (hr _ _).mpr (Or.inl h3)⟩
            · exact Or.inr ⟨Or.inl ⟨h, t, hE.2.1 _ _ h4⟩, hF.2.2 _ _ _ ((hr _ _).mpr (Or.inl h3)) (hF.2.1 _ _ p13)⟩))
        rw [e3]
        exact eq_r
    · rw [mo_n9 hf, mo_n9 (fun h9 => hf (fe_sub (fun g k h8 => (hr g k).mpr (Or.inl h8)) h9))]
      exact eq_r
  · -- one loop becomes two
    have e1 : mx9 P1 P2 P3 rel x s T = mo9 rel (on9 s x) (P1 x :: T) ++ mo9 rel (on9 s x) (P2 x :: T) := if_pos (dcb_t.mpr hm)
    have up : ∀ g k, rel (on9 s x) g k → rel s g k := fun g k h9 => (hr g k).mpr (Or.inl h9)
    have p12 : rel s (P1 x) (P2 x) := (hr _ _).mpr (adr_ab hF)
    rw [e1]
    -- who is in the loop that is split
    have side : ∀ g, rel s g (P1 x) → rel (on9 s x) g (P1 x) ∨ rel (on9 s x) g (P2 x) := fun g h9 => by
      rcases (hr _ _).mp h9 with h3 | ⟨h3, h4⟩ | ⟨h3, h4⟩
      · exact Or.inl h3
      · exact Or.inl h3
      · exact Or.inr h3
    by_cases hf : fe9 rel s T
    · have hft : fe9 rel (on9 s x) T := fe_sub up hf
      rw [mo_y hf]
      refine eq_t (bd_1 _) ?_
      have e2 : Dx9 P1 P2 P3 rel x (s, inm9 rel s T) = (if inm9 rel s T (P1 x) = true then [(1, (on9 s x, inm9 rel s T))] else [(1, (on9 s x, fun g => inm9 rel s T g || dcb (rel (on9 s x) g (P1 x)))), (1, (on9 s x, fun g => inm9 rel s T g || dcb (rel (on9 s x) g (P2 x))))]) := if_pos (dcb_t.mpr hm)
      rw [e2]
      by_cases c : inm9 rel s T (P1 x) = true
      · rw [if_pos c]
        obtain ⟨h0, t0, r0⟩ := in_t.mp c
        -- with a: the end that h0 lies at, b: the other
        have one : ∀ a b, (a = P1 x ∧ b = P2 x ∨ a = P2 x ∧ b = P1 x) → rel (on9 s x) h0 a → mo9 rel (on9 s x) (a :: T) = [] ∧ mo9 rel (on9 s x) (b :: T) = [(1, (on9 s x, inm9 rel s T))] := fun a b hab h9 => by
          have nab : ¬ rel (on9 s x) a b := by
            rcases hab with ⟨e, e'⟩ | ⟨e, e'⟩
            · rw [e, e']
              exact hn
            · rw [e, e']
              exact fun h8 => hn (hF.2.1 _ _ h8)
          have ra : rel s a (P1 x) := by
            rcases hab with ⟨e, -⟩ | ⟨e, -⟩
            · rw [e]
              exact hE.1 _
            · rw [e]
              exact hE.2.1 _ _ p12
          have rb : rel s b (P1 x) := by
            rcases hab with ⟨-, e⟩ | ⟨-, e⟩
            · rw [e]
              exact hE.2.1 _ _ p12
            · rw [e]
              exact hE.1 _
          have sd : ∀ g, rel s g (P1 x) → rel (on9 s x) g a ∨ rel (on9 s x) g b := fun g h8 => by
            rcases hab with ⟨e, e'⟩ | ⟨e, e'⟩
            · rw [e, e']
              exact side g h8
            · rw [e, e']
              exact (side g h8).symm
          have fb : fe9 rel (on9 s x) (b :: T) := List.pairwise_cons.mpr ⟨fun h hh h8 => by
            have h7 : h = h0 := fe_one hE hf hh t0 (hE.2.2 _ _ _ (up _ _ (hF.2.1 _ _ h8)) (hE.2.2 _ _ _ rb r0))
            rw [h7] at h8
            exact nab (hF.2.1 _ _ (hF.2.2 _ _ _ h8 h9)), hft⟩
          refine ⟨mo_n9 (fun h8 => (List.pairwise_cons.mp h8).1 h0 t0 (hF.2.1 _ _ h9)), ?_⟩
          rw [mo_y fb]
          have e3 : inm9 rel (on9 s x) (b :: T) = inm9 rel s T := funext (fun g => bx (by
            rw [in_t, in_t]
            constructor
            · rintro ⟨h, t, r⟩
              rcases List.mem_cons.mp t with e | e
              · rw [e] at r
                exact ⟨h0, t0, hE.2.2 _ _ _ (up _ _ r) (hE.2.2 _ _ _ rb r0)⟩
              · exact ⟨h, e, up _ _ r⟩
            · rintro ⟨h, t, r⟩
              by_cases ga : rel s g (P1 x)
              · rcases sd g ga with h7 | h7
                · exact ⟨h0, List.mem_cons_of_mem _ t0, hF.2.2 _ _ _ h7 (hF.2.1 _ _ h9)⟩
                · exact ⟨b, List.mem_cons_self, h7⟩
              · rcases (hr g h).mp r with h3 | ⟨h3, h4⟩ | ⟨h3, h4⟩
                · exact ⟨h, List.mem_cons_of_mem _ t, h3⟩
                · exact absurd (up _ _ h3) ga
                · exact absurd (hE.2.2 _ _ _ (up _ _ h3) (hE.2.1 _ _ p12)) ga))
          rw [e3]
        rcases side h0 (hE.2.1 _ _ r0) with h9 | h9
        · obtain ⟨q1, q2⟩ := one (P1 x) (P2 x) (Or.inl ⟨rfl, rfl⟩) h9
          rw [q1, q2]
          exact eq_r
        · obtain ⟨q1, q2⟩ := one (P2 x) (P1 x) (Or.inr ⟨rfl, rfl⟩) h9
          rw [q1, q2, List.append_nil]
          exact eq_r
      · rw [if_neg c]
        have cn : ¬ ∃ h, h ∈ T ∧ rel s (P1 x) h := fun h9 => c (in_t.mpr h9)
        have one : ∀ a, rel s a (P1 x) → mo9 rel (on9 s x) (a :: T) = [(1, (on9 s x, fun g => inm9 rel s T g || dcb (rel (on9 s x) g a)))] := fun a ha => by
          have fa : fe9 rel (on9 s x) (a :: T) := List.pairwise_cons.mpr ⟨fun h hh h8 => cn ⟨h, hh, hE.2.2 _ _ _ (hE.2.1 _ _ ha) (up _ _ h8)⟩, hft⟩
          rw [mo_y fa]
          have e3 : inm9 rel (on9 s x) (a :: T) = fun g => inm9 rel s T g || dcb (rel (on9 s x) g a) := funext (fun g => bx (by
            rw [in_t, Bool.or_eq_true, in_t, dcb_t]
            constructor
            · rintro ⟨h, t, r⟩
              rcases List.mem_cons.mp t with e | e
              · rw [e] at r
                exact Or.inr r
              · exact Or.inl ⟨h, e, up _ _ r⟩
            · rintro (⟨h, t, r⟩ | r)
              · rcases (hr g h).mp r with h3 | ⟨h3, h4⟩ | ⟨h3, h4⟩
                · exact ⟨h, List.mem_cons_of_mem _ t, h3⟩
                · exact absurd ⟨h, t, hE.2.2 _ _ _ p12 (hE.2.1 _ _ (up _ _ h4))⟩ cn
                · exact absurd ⟨h, t, hE.2.1 _ _ (up _ _ h4)⟩ cn
              · exact ⟨a, List.mem_cons_self, r⟩))
          rw [e3]
        rw [one (P1 x) (hE.1 _), one (P2 x) (hE.2.1 _ _ p12)]
        exact eq_r
    · have z : ∀ a b, (a = P1 x ∧ b = P2 x ∨ a = P2 x ∧ b = P1 x) → ¬ fe9 rel (on9 s x) (a :: T) := fun a b hab h9 => by
        obtain ⟨f1, f2⟩ := List.pairwise_cons.mp h9
        refine hf (List.Pairwise.imp_of_mem (fun {g h} hg hh h1 h2 => ?_) f2)
        rcases (hr g h).mp h2 with h3 | ⟨h3, h4⟩ | ⟨h3, h4⟩
        · exact h1 h3
        · rcases hab with ⟨e, -⟩ | ⟨e, -⟩
          · exact f1 g hg (by rw [e]; exact hF.2.1 _ _ h3)
          · exact f1 h hh (by rw [e]; exact hF.2.1 _ _ h4)
        · rcases hab with ⟨e, -⟩ | ⟨e, -⟩
          · exact f1 h hh (by rw [e]; exact hF.2.1 _ _ h4)
          · exact f1 g hg (by rw [e]; exact hF.2.1 _ _ h3)
      rw [mo_n9 hf, mo_n9 (z (P1 x) (P2 x) (Or.inl ⟨rfl, rfl⟩)), mo_n9 (z (P2 x) (P1 x) (Or.inr ⟨rfl, rfl⟩))]
      exact eq_r
end XCH7
