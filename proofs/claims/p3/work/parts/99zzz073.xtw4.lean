section
/-! 99zzzzzzzzzzzzzzzze.xtw4 -/
/-! two: first visits; the value of a word -/
def fsz : List Nat → List tk9 → List (Nat × Bool)
  | _, [] => []
  | met, p :: r => if p.2 = 2 ∨ p.1 ∈ met then fsz met r else (p.1, decide (p.2 = 1)) :: fsz (p.1 :: met) r
/-- the first visit of x in l has side i -/
def fvz (l : List tk9) (x i : Nat) : Prop := ∃ a c, l = a ++ (x, i) :: c ∧ i ≠ 2 ∧ ∀ q, q ∈ a → q.2 = 2 ∨ q.1 ≠ x
theorem fsz_k {met : List Nat} {p : tk9} {r : List tk9} (h : p.2 = 2 ∨ p.1 ∈ met) : fsz met (p :: r) = fsz met r := if_pos h
theorem fsz_f {met : List Nat} {p : tk9} {r : List tk9} (h : ¬ (p.2 = 2 ∨ p.1 ∈ met)) : fsz met (p :: r) = (p.1, decide (p.2 = 1)) :: fsz (p.1 :: met) r := if_neg h
theorem fsz_n : ∀ {l : List tk9} {met : List Nat} {q : Nat × Bool}, q ∈ fsz met l → q.1 ∉ met
  | [], _, _, h => absurd h List.not_mem_nil
  | p :: r, met, q, h => by
    by_cases c : p.2 = 2 ∨ p.1 ∈ met
    · rw [fsz_k c] at h
      exact fsz_n h
    · rw [fsz_f c] at h
      rcases List.mem_cons.mp h with h1 | h1
      · rw [h1]
        exact fun h9 => c (Or.inr h9)
      · exact fun h9 => fsz_n h1 (List.mem_cons_of_mem _ h9)
theorem fsz_nd : ∀ {l : List tk9} {met : List Nat}, ((fsz met l).map Prod.fst).Nodup
  | [], _ => List.nodup_nil
  | p :: r, met => by
    by_cases c : p.2 = 2 ∨ p.1 ∈ met
    · rw [fsz_k c]
      exact fsz_nd
    · rw [fsz_f c, List.map_cons, List.nodup_cons]
      refine ⟨fun h9 => ?_, fsz_nd⟩
      obtain ⟨q, h1, h2⟩ := List.mem_map.mp h9
      have h3 := fsz_n h1
      rw [h2] at h3
      exact h3 List.mem_cons_self
theorem fsz_m : ∀ {l : List tk9} {met : List Nat} {x : Nat} {b : Bool}, (x, b) ∈ fsz met l ↔ x ∉ met ∧ ∃ i, fvz l x i ∧ b = decide (i = 1)
  | [], met, x, b => by
    constructor
    · intro h
      exact absurd h List.not_mem_nil
    · rintro ⟨-, i, ⟨a, c, e, -⟩, -⟩
      have := congrArg List.length e
      simp at this
  | p :: r, met, x, b => by
    by_cases c : p.2 = 2 ∨ p.1 ∈ met
    · rw [fsz_k c, fsz_m]
      constructor
      · rintro ⟨h1, i, ⟨a, d, e, h2, h3⟩, h4⟩
        refine ⟨h1, i, ⟨p :: a, d, by rw [e]; rfl, h2, fun q hq => ?_⟩, h4⟩
        rcases List.mem_cons.mp hq with h5 | h5
        · rw [h5]
          exact c.imp id (fun h6 h7 => h1 (by rw [← h7]; exact h6))
        · exact h3 q h5
      · rintro ⟨h1, i, ⟨a, d, e, h2, h3⟩, h4⟩
        cases a with
        | nil =>
          obtain ⟨e1, -⟩ := List.cons.inj e
          exfalso
          rw [e1] at c
          exact c.elim h2 h1
        | cons p' a =>
          obtain ⟨-, e2⟩ := List.cons.inj e
          exact ⟨h1, i, ⟨a, d, e2, h2, fun q hq => h3 q (List.mem_cons_of_mem _ hq)⟩, h4⟩
    · rw [fsz_f c, List.mem_cons, fsz_m]
      have c1 : p.2 ≠ 2 := fun h9 => c (Or.inl h9)
      have c2 : p.1 ∉ met := fun h9 => c (Or.inr h9)
      constructor
      · rintro (h | ⟨h1, i, ⟨a, d, e, h2, h3⟩, h4⟩)
        · obtain ⟨h5, h6⟩ := Prod.mk.inj h
          exact ⟨by rw [h5]; exact c2, p.2, ⟨[], r, by rw [h5]; rfl, c1, fun q hq => absurd hq List.not_mem_nil⟩, h6⟩
        · refine ⟨fun h9 => h1 (List.mem_cons_of_mem _ h9), i, ⟨p :: a, d, by rw [e]; rfl, h2, fun q hq => ?_⟩, h4⟩
          rcases List.mem_cons.mp hq with h5 | h5
          · rw [h5]
            exact Or.inr (fun h7 => h1 (by rw [← h7]; exact List.mem_cons_self))
          · exact h3 q h5
      · rintro ⟨h1, i, ⟨a, d, e, h2, h3⟩, h4⟩
        cases a with
        | nil =>
          obtain ⟨e1, -⟩ := List.cons.inj e
          rw [e1]
          exact Or.inl (by rw [h4])
        | cons p' a =>
          obtain ⟨e1, e2⟩ := List.cons.inj e
          have hp' := h3 p' List.mem_cons_self
          rw [← e1] at hp'
          refine Or.inr ⟨fun h9 => ?_, i, ⟨a, d, e2, h2, fun q hq => h3 q (List.mem_cons_of_mem _ hq)⟩, h4⟩
          rcases List.mem_cons.mp h9 with h8 | h8
          · exact hp'.elim c1 (fun h7 => h7 h8.symm)
          · exact h1 h8
/-- a word without the letter x -/
def dlz (x : Nat) (W : wd9) : wd9 := W.filter (fun l => decide (l.2 ≠ x))
theorem dlz_n {x : Nat} : ∀ {W : wd9}, x ∉ nmz W → dlz x W = W
  | [], _ => rfl
  | l :: W, h => by
    have h1 : l.2 ≠ x := fun h9 => h (by rw [← h9]; exact List.mem_cons_self)
    have h2 : x ∉ nmz W := fun h9 => h (List.mem_cons_of_mem _ h9)
    unfold dlz
    rw [List.filter_cons_of_pos (by simp [h1])]
    exact congrArg (l :: ·) (dlz_n h2)
theorem dlz_e {g x : Nat} {A B : wd9} (hA : x ∉ nmz A) (hB : x ∉ nmz B) : dlz x (B ++ (g, x) :: A) = B ++ A := by
  unfold dlz
  rw [List.filter_append, List.filter_cons_of_neg (by simp)]
  have h1 := dlz_n hA
  have h2 := dlz_n hB
  unfold dlz at h1 h2
  rw [h1, h2]
theorem dlz_cm (x y : Nat) (W : wd9) : dlz x (dlz y W) = dlz y (dlz x W) := by
  unfold dlz
  rw [List.filter_filter, List.filter_filter]
  congr 1
  funext l
  exact Bool.and_comm _ _
theorem nm_ex {x : Nat} : ∀ {W : wd9}, x ∈ nmz W → ∃ A B g, W = B ++ (g, x) :: A
  | [], h => absurd h List.not_mem_nil
  | l :: W, h => by
    rcases List.mem_cons.mp h with h1 | h1
    · exact ⟨W, [], l.1, by rw [h1]; rfl⟩
    · obtain ⟨A, B, g, rfl⟩ := nm_ex h1
      exact ⟨A, l :: B, g, rfl⟩
theorem dlz_lt {x : Nat} {W : wd9} (h : x ∈ nmz W) : (dlz x W).length < W.length := by
  obtain ⟨A, B, g, rfl⟩ := nm_ex h
  unfold dlz
  rw [List.filter_append, List.filter_cons_of_neg (by simp), List.length_append, List.length_append, List.length_cons]
  have h1 := List.length_filter_le (fun l : Nat × Nat => decide (l.2 ≠ x)) A
  have h2 := List.length_filter_le (fun l : Nat × Nat => decide (l.2 ≠ x)) B
  omega
theorem nm_dl {x y : Nat} {W : wd9} : y ∈ nmz (dlz x W) ↔ y ∈ nmz W ∧ y ≠ x := by
  unfold nmz dlz
  constructor
  · intro h
    obtain ⟨l, h1, h2⟩ := List.mem_map.mp h
    obtain ⟨h3, h4⟩ := List.mem_filter.mp h1
    exact ⟨List.mem_map.mpr ⟨l, h3, h2⟩, by rw [← h2]; exact of_decide_eq_true h4⟩
  · rintro ⟨h, hy⟩
    obtain ⟨l, h1, h2⟩ := List.mem_map.mp h
    exact List.mem_map.mpr ⟨l, List.mem_filter.mpr ⟨h1, decide_eq_true (by rw [h2]; exact hy)⟩, h2⟩
theorem ok_dl {n x : Nat} {W : wd9} (h : okw n W) : okw n (dlz x W) := by
  by_cases c : x ∈ nmz W
  · obtain ⟨A, B, g, rfl⟩ := nm_ex c
    obtain ⟨h1, h2, h3⟩ := okw_d h
    rw [dlz_e h1 h2]
    exact h3
  · rw [dlz_n c]
    exact h
/-- the value along an order, given the values of the words with a letter less -/
def vlz (G : Nat → (Nat → Bool) → pz9) (L : List (List tk9)) (ov : Nat → Bool) : pz9 := goz (lfz (L.length - 1)) G (fsz [] L.flatten) ov
/-- some order -/
noncomputable def orc (n : Nat) (W : wd9) : List (List tk9) := Classical.epsilon (fun L => orz n W L)
theorem orc_o {n : Nat} {W : wd9} {L : List (List tk9)} (h : orz n W L) : orz n W (orc n W) := Classical.epsilon_spec (p := fun L => orz n W L) ⟨L, h⟩
noncomputable def fvl : Nat → Nat → wd9 → (Nat → Bool) → pz9
  | 0, n, W, ov => vlz (fun _ _ _ _ => 0) (orc n W) ov
  | k + 1, n, W, ov => vlz (fun x ov => fvl k n (dlz x W) ov) (orc n W) ov
/-- the value of a word -/
noncomputable def Fz (n : Nat) (W : wd9) (ov : Nat → Bool) : pz9 := fvl W.length n W ov
noncomputable def Gz (n : Nat) (W : wd9) (x : Nat) (ov : Nat → Bool) : pz9 := Fz n (dlz x W) ov
theorem goz_cg {P : pz9} {G G' : Nat → (Nat → Bool) → pz9} {S : List Nat} (hG : ∀ x, x ∈ S → ∀ o o' : Nat → Bool, (∀ y, y ∈ S → o y = o' y) → G x o = G' x o') : ∀ (l : List (Nat × Bool)) (ov ov' : Nat → Bool), (∀ p, p ∈ l → p.1 ∈ S) → (∀ y, y ∈ S → ov y = ov' y) → goz P G l ov = goz P G' l ov'
  | [], _, _, _, _ => rfl
  | p :: r, ov, ov', hS, h => by
    have hp := hS p List.mem_cons_self
    have hr : ∀ q, q ∈ r → q.1 ∈ S := fun q hq => hS q (List.mem_cons_of_mem _ hq)
    by_cases c : p.2 = ov p.1
    · rw [goz_g c, goz_g (c.trans (h _ hp))]
      exact goz_cg hG r ov ov' hr h
    · rw [goz_b c, goz_b (by rw [← h _ hp]; exact c), h _ hp, hG p.1 hp ov ov' h, goz_cg hG r (flz ov p.1) (flz ov' p.1) hr (fun y hy => ?_)]
      by_cases e : y = p.1
      · rw [e, flz_at, flz_at, h _ hp]
      · rw [flz_ot e, flz_ot e, h y hy]
section XTW4
variable {n : Nat} {W : wd9} {L : List (List tk9)}
theorem fs_nm (h : orz n W L) {p : Nat × Bool} (hp : p ∈ fsz [] L.flatten) : p.1 ∈ nmz W := by
  obtain ⟨x, b⟩ := p
  obtain ⟨-, i, ⟨a, c, e, h2, -⟩, -⟩ := fsz_m.mp hp
  have : (x, i) ∈ L.flatten := by
    rw [e]
    exact List.mem_append_right _ List.mem_cons_self
  rcases (h.2.2 _).mp this with ⟨h3, -⟩ | ⟨-, h3⟩
  · exact absurd h3 h2
  · exact h3
theorem fv_ex {x : Nat} : ∀ {l : List tk9} {i : Nat}, (x, i) ∈ l → i ≠ 2 → ∃ j, fvz l x j
  | [], _, h, _ => absurd h List.not_mem_nil
  | p :: r, i, h, hi => by
    by_cases c : p.1 = x ∧ p.2 ≠ 2
    · exact ⟨p.2, [], r, by rw [← c.1]; rfl, c.2, fun q hq => absurd hq List.not_mem_nil⟩
    · rcases List.mem_cons.mp h with h1 | h1
      · exact absurd ⟨by rw [← h1], by rw [← h1]; exact hi⟩ c
      · obtain ⟨j, a, d, e, h2, h3⟩ := fv_ex h1 hi
        refine ⟨j, p :: a, d, by rw [e]; rfl, h2, fun q hq => ?_⟩
        rcases List.mem_cons.mp hq with h4 | h4
        · rw [h4]
          by_cases c2 : p.2 = 2
          · exact Or.inl c2
          · exact Or.inr (fun h9 => c ⟨h9, c2⟩)
        · exact h3 q h4
theorem nm_fs (h : orz n W L) {x : Nat} (hx : x ∈ nmz W) : x ∈ (fsz [] L.flatten).map Prod.fst := by
  obtain ⟨j, hj⟩ := fv_ex (i := 1) ((h.2.2 (x, 1)).mpr (Or.inr ⟨by omega, hx⟩)) (by omega)
  exact List.mem_map.mpr ⟨(x, decide (j = 1)), fsz_m.mpr ⟨List.not_mem_nil, j, hj, rfl⟩, rfl⟩
theorem len_dl {x : Nat} (ho : okw n W) (hx : x ∈ nmz W) : (dlz x W).length + 1 = W.length := by
  obtain ⟨A, B, g, rfl⟩ := nm_ex hx
  obtain ⟨h1, h2, -⟩ := okw_d ho
  rw [dlz_e h1 h2, List.length_append, List.length_append, List.length_cons]
  omega
end XTW4
end
