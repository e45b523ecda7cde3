/-! exact: moves of kind 4 of the reference -/
def t4A (A : rn_L) (a b c : Nat) : rn_L := rsh A (fun v => vAt A (sw2 (a / 2) (rn_nx A (a / 2)) (sw2 (b / 2) (rn_nx A (b / 2)) (sw2 (c / 2) (rn_nx A (c / 2)) v)))) A.length
def t4o (A : rn_L) (s : Nat) : Prop := uns A (s / 2) = 0 ∧ uns A (rn_nx A (s / 2)) = 0
def t4P (A : rn_L) (a b c : Nat) (A' : rn_L) : Prop := (crs A (hdv A a) ≠ crs A (hdv A b) ∧ crs A (hdv A a) ≠ crs A (hdv A c) ∧ crs A (hdv A b) ≠ crs A (hdv A c)) ∧ (t4o A a ∨ t4o A b ∨ t4o A c) ∧ A' = t4A A a b c
def O4s (A : rn_L) (sg : Nat → Bool) (s : Nat) (A' : rn_L) (sg' : Nat → Bool) : Prop := s < 2 * A.flatten.length ∧ sg' = sg ∧ phi A sg (phi A sg (phi A sg s)) = s ∧ t4P A s (phi A sg s) (phi A sg (phi A sg s)) A'
def O4 (A : rn_L) (sg : Nat → Bool) (A' : rn_L) (sg' : Nat → Bool) : Prop := ∃ s, O4s A sg s A' sg'
def O4L (A : rn_L) (sg : Nat → Bool) (M : Nat → Int32) (f : Nat) (A' : rn_L) (sg' : Nat → Bool) : Prop := ∃ s f', f' < f ∧ M s = nI f' ∧ O4s A sg s A' sg'
section XK4
variable {A : rn_L} {sg : Nat → Bool} {A' : rn_L} {sg' : Nat → Bool} {a b c f : Nat} {M : Nat → Int32}
def dj3 (A : rn_L) (a b c : Nat) : Prop := dj4 (a / 2) (rn_nx A (a / 2)) (b / 2) (rn_nx A (b / 2)) ∧ dj4 (b / 2) (rn_nx A (b / 2)) (c / 2) (rn_nx A (c / 2)) ∧ dj4 (c / 2) (rn_nx A (c / 2)) (a / 2) (rn_nx A (a / 2))
theorem sw2_cm {a b c d p : Nat} (h : dj4 a b c d) : sw2 a b (sw2 c d p) = sw2 c d (sw2 a b p) := sw2_comm h.1 h.2.1 h.2.2.1 h.2.2.2
theorem t4A_rot (h : dj3 A a b c) : t4A A a b c = t4A A b c a := by
  unfold t4A
  congr 1
  funext v
  rw [sw2_cm h.1, sw2_cm (dj4_sy h.2.2)]
theorem t4A_sw (h : dj3 A a b c) : t4A A a b c = t4A A a c b := by
  unfold t4A
  congr 1
  funext v
  rw [sw2_cm h.2.1]
theorem t4P_rot (h : dj3 A a b c) : t4P A a b c A' ↔ t4P A b c a A' := by
  unfold t4P
  rw [t4A_rot h]
  constructor
  · rintro ⟨⟨h1, h2, h3⟩, h4, h5⟩
    exact ⟨⟨h3, h1.symm, h2.symm⟩, by rcases h4 with h4 | h4 | h4 <;> simp [h4], h5⟩
  · rintro ⟨⟨h1, h2, h3⟩, h4, h5⟩
    exact ⟨⟨h2.symm, h3.symm, h1⟩, by rcases h4 with h4 | h4 | h4 <;> simp [h4], h5⟩
theorem t4P_sw (h : dj3 A a b c) : t4P A a b c A' ↔ t4P A a c b A' := by
  unfold t4P
  rw [t4A_sw h]
  constructor
  · rintro ⟨⟨h1, h2, h3⟩, h4, h5⟩
    exact ⟨⟨h2, h1, h3.symm⟩, by rcases h4 with h4 | h4 | h4 <;> simp [h4], h5⟩
  · rintro ⟨⟨h1, h2, h3⟩, h4, h5⟩
    exact ⟨⟨h2, h1, h3.symm⟩, by rcases h4 with h4 | h4 | h4 <;> simp [h4], h5⟩
theorem dj3_rot (h : dj3 A a b c) : dj3 A b c a := ⟨h.2.1, h.2.2, h.1⟩
theorem dj3_sw (h : dj3 A a b c) : dj3 A a c b := ⟨dj4_sy h.2.2, dj4_sy h.2.1, dj4_sy h.1⟩
/-- a face of three sides is one turn of three -/
theorem tri_cyc (hd : rn_ok A.flatten) (h : a < 2 * A.flatten.length ∧ b < 2 * A.flatten.length ∧ c < 2 * A.flatten.length) (hne : a ≠ b ∧ a ≠ c ∧ b ≠ c) (hcl : ∀ s, (s = a ∨ s = b ∨ s = c) → phi A sg s = a ∨ phi A sg s = b ∨ phi A sg s = c) (orb : ∀ Lb : Nat → Nat, (∀ s, s < 2 * A.flatten.length → Lb (phi A sg s) = Lb s) → Lb a = Lb b ∧ Lb a = Lb c) : (phi A sg a = b ∧ phi A sg b = c ∧ phi A sg c = a) ∨ (phi A sg a = c ∧ phi A sg c = b ∧ phi A sg b = a) := by
  have i01 : phi A sg a ≠ phi A sg b := fun e => hne.1 (phi_inj hd h.1 h.2.1 e)
  have i02 : phi A sg a ≠ phi A sg c := fun e => hne.2.1 (phi_inj hd h.1 h.2.2 e)
  have i12 : phi A sg b ≠ phi A sg c := fun e => hne.2.2 (phi_inj hd h.2.1 h.2.2 e)
  have p0 := hcl a (Or.inl rfl)
  have p1 := hcl b (Or.inr (Or.inl rfl))
  have p2 := hcl c (Or.inr (Or.inr rfl))
  have one : phi A sg a ≠ a := fun e => by
    have := (orb (fun t => if t = a then 1 else 0) (fun s hs => by
      show (if _ then _ else _) = if _ then _ else _
      by_cases e1 : s = a
      · rw [e1, e]
      · rw [if_neg e1, if_neg (fun e2 => e1 (phi_inj hd hs h.1 (e2.trans e.symm)))])).1
    have : (if a = a then 1 else 0) = if b = a then 1 else 0 := this
    rw [if_pos rfl, if_neg (fun e => hne.1 e.symm)] at this
    cases this
  have two : ∀ x y, (x = a ∧ (y = b ∧ phi A sg c = c ∨ y = c ∧ phi A sg b = b)) → ¬ (phi A sg x = y ∧ phi A sg y = x) := by
    rintro x y ⟨rfl, hy⟩ ⟨e1, e2⟩
    have := orb (fun t => if t = x ∨ t = y then 1 else 0) (fun s hs => by
      show (if _ then _ else _) = if _ then _ else _
      have hyl : y < 2 * A.flatten.length := by omega
      by_cases e3 : s = x ∨ s = y
      · rw [if_pos e3, if_pos]
        rcases e3 with e3 | e3 <;> rw [e3]
        · exact Or.inr e1
        · exact Or.inl e2
      · rw [if_neg e3, if_neg]
        rintro (e4 | e4)
        · exact e3 (Or.inr (phi_inj hd hs hyl (e4.trans e2.symm)))
        · exact e3 (Or.inl (phi_inj hd hs h.1 (e4.trans e1.symm))))
    have t1 : (if x = x ∨ x = y then 1 else 0) = if b = x ∨ b = y then 1 else 0 := this.1
    have t2 : (if x = x ∨ x = y then 1 else 0) = if c = x ∨ c = y then 1 else 0 := this.2
    rw [if_pos (Or.inl rfl)] at t1 t2
    rcases hy with ⟨hy, -⟩ | ⟨hy, -⟩
    · rw [if_neg (by rintro (e | e) <;> omega)] at t2
      cases t2
    · rw [if_neg (by rintro (e | e) <;> omega)] at t1
      cases t1
  have two1 := two a b
  have two2 := two a c
  rcases p0 with p0 | p0 | p0
  · exact absurd p0 one
  · rcases p1 with p1 | p1 | p1
    · rcases p2 with p2 | p2 | p2
      · exact absurd (p1.trans p2.symm) i12
      · exact absurd (p0.trans p2.symm) i02
      · exact absurd ⟨p0, p1⟩ (two1 ⟨rfl, Or.inl ⟨rfl, p2⟩⟩)
    · exact absurd (p0.trans p1.symm) i01
    · rcases p2 with p2 | p2 | p2
      · exact Or.inl ⟨p0, p1, p2⟩
      · exact absurd (p0.trans p2.symm) i02
      · exact absurd (p1.trans p2.symm) i12
  · rcases p1 with p1 | p1 | p1
    · rcases p2 with p2 | p2 | p2
      · exact absurd (p1.trans p2.symm) i12
      · exact Or.inr ⟨p0, p2, p1⟩
      · exact absurd (p0.trans p2.symm) i02
    · rcases p2 with p2 | p2 | p2
      · exact absurd ⟨p0, p2⟩ (two2 ⟨rfl, Or.inr ⟨rfl, p1⟩⟩)
      · exact absurd (p1.trans p2.symm) i12
      · exact absurd (p0.trans p2.symm) i02
    · exact absurd (p0.trans p1.symm) i01
/-- what a face of three sides offers -/
theorem t4_face (hd : rn_ok A.flatten) (h : a < 2 * A.flatten.length ∧ b < 2 * A.flatten.length ∧ c < 2 * A.flatten.length) (hne : a ≠ b ∧ a ≠ c ∧ b ≠ c) (memf : ∀ t, t ∈ [a, b, c] ↔ t < 2 * A.flatten.length ∧ M t = nI f) (hcl : ∀ s, (s = a ∨ s = b ∨ s = c) → phi A sg s = a ∨ phi A sg s = b ∨ phi A sg s = c) (orb : ∀ Lb : Nat → Nat, (∀ s, s < 2 * A.flatten.length → Lb (phi A sg s) = Lb s) → Lb a = Lb b ∧ Lb a = Lb c) : (∃ s, M s = nI f ∧ O4s A sg s A' sg') ↔ t4P A a b c A' ∧ sg' = sg := by
  have dj : t4P A a b c A' → dj3 A a b c := fun h9 => (tri_pairs (sg := sg) hd h hne hcl h9.1.1 h9.1.2.1 h9.1.2.2).2.2.2
  have key : ∀ x y w, x < 2 * A.flatten.length → phi A sg x = y → phi A sg y = w → phi A sg w = x → (O4s A sg x A' sg' ↔ t4P A x y w A' ∧ sg' = sg) := by
    intro x y w hx e1 e2 e3
    unfold O4s
    rw [e1, e2, e3]
    exact ⟨fun ⟨_, h2, _, h4⟩ => ⟨h4, h2⟩, fun ⟨h4, h2⟩ => ⟨hx, h2, rfl, h4⟩⟩
  have back : ∀ x y w, (x = a ∧ y = b ∧ w = c ∨ x = b ∧ y = c ∧ w = a ∨ x = c ∧ y = a ∧ w = b ∨ x = a ∧ y = c ∧ w = b ∨ x = b ∧ y = a ∧ w = c ∨ x = c ∧ y = b ∧ w = a) → t4P A x y w A' → t4P A a b c A' := by
    intro x y w hx h9
    have hx' : (x = a ∨ x = b ∨ x = c) ∧ (y = a ∨ y = b ∨ y = c) ∧ (w = a ∨ w = b ∨ w = c) ∧ x ≠ y ∧ x ≠ w ∧ y ≠ w := by omega
    have d9 : dj3 A x y w := (tri_pairs (sg := sg) hd (s0 := x) (s1 := y) (s2 := w) (by omega) (by omega) (fun s hs => by
      have := hcl s (by omega)
      omega) h9.1.1 h9.1.2.1 h9.1.2.2).2.2.2
    rcases hx with ⟨e1, e2, e3⟩ | ⟨e1, e2, e3⟩ | ⟨e1, e2, e3⟩ | ⟨e1, e2, e3⟩ | ⟨e1, e2, e3⟩ | ⟨e1, e2, e3⟩ <;> subst e1 <;> subst e2 <;> subst e3
    · exact h9
    · exact (t4P_rot (dj3_rot d9)).mp ((t4P_rot d9).mp h9)
    · exact (t4P_rot d9).mp h9
    · exact (t4P_sw d9).mp h9
    · exact (t4P_rot (dj3_sw d9)).mp ((t4P_sw d9).mp h9) |> fun h8 => (t4P_rot (dj3_rot (dj3_sw d9))).mp h8
    · exact (t4P_rot (dj3_sw d9)).mp ((t4P_sw d9).mp h9)
  have cyc := tri_cyc hd h hne hcl orb
  constructor
  · rintro ⟨s, hM, hs⟩
    have hs' : s = a ∨ s = b ∨ s = c := by
      have := (memf s).mpr ⟨hs.1, hM⟩
      simpa using this
    rcases cyc with ⟨k1, k2, k3⟩ | ⟨k1, k2, k3⟩ <;> rcases hs' with e | e | e <;> rw [e] at hs
    · exact (key a b c h.1 k1 k2 k3).mp hs
    · obtain ⟨g1, g2⟩ := (key b c a h.2.1 k2 k3 k1).mp hs
      exact ⟨back b c a (by simp) g1, g2⟩
    · obtain ⟨g1, g2⟩ := (key c a b h.2.2 k3 k1 k2).mp hs
      exact ⟨back c a b (by simp) g1, g2⟩
    · obtain ⟨g1, g2⟩ := (key a c b h.1 k1 k2 k3).mp hs
      exact ⟨back a c b (by simp) g1, g2⟩
    · obtain ⟨g1, g2⟩ := (key b a c h.2.1 k3 k1 k2).mp hs
      exact ⟨back b a c (by simp) g1, g2⟩
    · obtain ⟨g1, g2⟩ := (key c b a h.2.2 k2 k3 k1).mp hs
      exact ⟨back c b a (by simp) g1, g2⟩
  · rintro ⟨h9, h8⟩
    refine ⟨a, ((memf a).mp (by simp)).2, ?_⟩
    rcases cyc with ⟨k1, k2, k3⟩ | ⟨k1, k2, k3⟩
    · exact (key a b c h.1 k1 k2 k3).mpr ⟨h9, h8⟩
    · exact (key a c b h.1 k1 k2 k3).mpr ⟨(t4P_sw (dj h9)).mp h9, h8⟩
/-- a face of another number of sides offers nothing -/
theorem t4_noface (hd : rn_ok A.flatten) (h3 : (fl M f (2 * A.flatten.length)).length ≠ 3) (orb : ∀ Lb : Nat → Nat, (∀ s, s < 2 * A.flatten.length → Lb (phi A sg s) = Lb s) → ∀ s s', s < 2 * A.flatten.length → s' < 2 * A.flatten.length → M s = nI f → M s' = nI f → Lb s = Lb s') (clo : ∀ s, s < 2 * A.flatten.length → (M s = nI f ↔ M (phi A sg s) = nI f)) : ¬ ∃ s, M s = nI f ∧ O4s A sg s A' sg' := by
  rintro ⟨s, hM, hs, -, h9, ⟨d1, d2, d3⟩, -⟩
  obtain ⟨x, hx⟩ : ∃ x, x = phi A sg s := ⟨_, rfl⟩
  obtain ⟨y, hy⟩ : ∃ y, y = phi A sg x := ⟨_, rfl⟩
  rw [← hx] at d1 d2 d3 h9
  rw [← hy] at d2 d3 h9
  have hxl : x < 2 * A.flatten.length := by rw [hx]; exact phi_lt hd hs
  have hyl : y < 2 * A.flatten.length := by rw [hy]; exact phi_lt hd hxl
  have hMx : M x = nI f := by rw [hx]; exact (clo s hs).mp hM
  have hMy : M y = nI f := by rw [hy]; exact (clo x hxl).mp hMx
  have nxy : s ≠ x ∧ s ≠ y ∧ x ≠ y := ⟨fun e => d1 (by rw [← e]), fun e => d2 (by rw [← e]), fun e => d3 (by rw [← e])⟩
  have all : ∀ t, t < 2 * A.flatten.length → M t = nI f → t = s ∨ t = x ∨ t = y := by
    intro t ht hMt
    have := orb (fun t => if t = s ∨ t = x ∨ t = y then 1 else 0) (fun u hu => by
      show (if _ then _ else _) = if _ then _ else _
      by_cases e3 : u = s ∨ u = x ∨ u = y
      · rw [if_pos e3, if_pos]
        rcases e3 with e3 | e3 | e3 <;> rw [e3]
        · exact Or.inr (Or.inl hx.symm)
        · exact Or.inr (Or.inr hy.symm)
        · exact Or.inl h9
      · rw [if_neg e3, if_neg]
        rintro (e4 | e4 | e4)
        · exact e3 (Or.inr (Or.inr (phi_inj hd hu hyl (e4.trans h9.symm))))
        · exact e3 (Or.inl (phi_inj hd hu hs (e4.trans hx)))
        · exact e3 (Or.inr (Or.inl (phi_inj hd hu hxl (e4.trans hy))))) s t hs ht hM hMt
    have this : (if s = s ∨ s = x ∨ s = y then 1 else 0) = if t = s ∨ t = x ∨ t = y then 1 else 0 := this
    rw [if_pos (Or.inl rfl)] at this
    by_cases e : t = s ∨ t = x ∨ t = y
    · exact e
    · rw [if_neg e] at this
      cases this
  apply h3
  have pm : (fl M f (2 * A.flatten.length)).Perm [s, x, y] := by
    refine (List.perm_ext_iff_of_nodup (nodup_filter List.nodup_range) ?_).mpr (fun t => ?_)
    · simp only [List.nodup_cons, List.mem_cons, List.not_mem_nil, or_false, not_or]
      exact ⟨⟨nxy.1, nxy.2.1⟩, nxy.2.2, fun h => h, List.nodup_nil⟩
    · rw [List.mem_filter, List.mem_range, decide_eq_true_iff]
      simp only [List.mem_cons, List.not_mem_nil, or_false]
      constructor
      · exact fun h8 => all t h8.1 h8.2
      · rintro (e | e | e) <;> rw [e]
        · exact ⟨hs, hM⟩
        · exact ⟨hxl, hMx⟩
        · exact ⟨hyl, hMy⟩
  exact pm.length_eq
theorem O4L_s : (O4L A sg M f A' sg' ∨ ∃ s, M s = nI f ∧ O4s A sg s A' sg') ↔ O4L A sg M (f + 1) A' sg' := by
  constructor
  · rintro (⟨s, f', h1, h2, h3⟩ | ⟨s, h2, h3⟩)
    · exact ⟨s, f', by omega, h2, h3⟩
    · exact ⟨s, f, by omega, h2, h3⟩
  · rintro ⟨s, f', h1, h2, h3⟩
    by_cases e : f' = f
    · rw [e] at h2
      exact Or.inr ⟨s, h2, h3⟩
    · exact Or.inl ⟨s, f', by omega, h2, h3⟩
theorem O4L_n (hno : ∀ A' sg', ¬ ∃ s, M s = nI f ∧ O4s A sg s A' sg') : O4L A sg M f A' sg' ↔ O4L A sg M (f + 1) A' sg' := by
  rw [← O4L_s]
  exact ⟨Or.inl, fun h => h.elim id (fun h9 => absurd h9 (hno A' sg'))⟩
end XK4
section XK4b
variable {Φ : ow_MS → (List Nat → Prop) → Nat → Prop} {n : Nat} {z : ow_MS} {A : rn_L} {sg : Nat → Bool} {S : List Nat → Prop}
theorem xr_three (hΦ : snkF Φ) (hn : mw_net n) (hn3 : n ≠ 3000) (hO : oNet z n A sg) (h : Φ z S 0) : Te (fun K => qe_X13_threeChange K n z) (fun z1 => (∃ S', adS S S' (O4 A sg) ∧ Φ z1 S' 2700) ∧ fr (fun g => g < 1000 ∧ g ≠ 12 ∧ g ≠ 28 ∨ 3001 ≤ g ∧ g ≤ 3016 ∨ n + 12 ≤ g ∧ g ≤ n + 16) z z1) := by
  have hmn := net_mod hn
  have hl := hO.len
  have hC := hO.2.2.2
  have hd := wkF_ok hO.wk
  refine e_X13_threeChange ?_
  refine u_X13_threeChange_0 ?_; unfold qm_X13_threeChange_0
  refine w_cs0 (te_all (α := Nat → Nat) (H := fun Lb => ∀ s, s < 2 * A.flatten.length → Lb (phi A sg s) = Lb s) (R := fun Lb z1 => fr (frW n) z z1 ∧ ∃ F, rn_fc z1 n A.flatten.length F ∧ wkF3 A sg Lb F (z1.2.1 (n + 14))) (tn_walk2 hn (by omega) hd hO.1 hO.2.1) (fun Lb hLb => xr_walk hn (by omega) hd hO.1 hO.2.1 hLb)) (fun z0 ⟨⟨f0, F, fc, w2⟩, hal⟩ => ?_)
  have orb9 : ∀ Lb : Nat → Nat, (∀ s, s < 2 * A.flatten.length → Lb (phi A sg s) = Lb s) → ∀ f', f' < F → ∀ s s', s < 2 * A.flatten.length → s' < 2 * A.flatten.length → z0.2.1 (n + 14) s = nI f' → z0.2.1 (n + 14) s' = nI f' → Lb s = Lb s' := by
    intro Lb hLb f' hf'
    obtain ⟨-, F', fc', w3⟩ := hal Lb hLb
    have e : F' = F := by
      have b1 := fc'.2.1
      have b2 := fc.2.1
      exact nI_inj9 (by omega) (by omega) (fc'.1.symm.trans fc.1)
    rw [e] at w3
    exact (w3.2 f' hf').2
  have f0' : fr (fun g => g < 1000 ∧ g ≠ 12 ∧ g ≠ 28 ∨ 3001 ≤ g ∧ g ≤ 3016 ∨ n + 12 ≤ g ∧ g ≤ n + 16) z z0 := fr_mono (fun g hg => by rcases hg with hg | hg | hg <;> omega) f0
  have hO0 : oNet z0 n A sg := oNet_fr f0 (fun g hg => by rcases hg with hg | hg | hg <;> omega) hO
  have h0 : Φ z0 S 0 := hΦ.1 _ _ _ _ _ f0 (fun g hg => by rcases hg with hg | hg | hg <;> omega) h
  obtain ⟨F16, F2, Fm, Fs⟩ := fc
  obtain ⟨M, hM⟩ : ∃ M, M = z0.2.1 (n + 14) := ⟨_, rfl⟩
  rw [← hM] at w2 Fm Fs orb9
  let Q : ow_MS → Prop := fun z1 => (∃ S', adS S S' (O4 A sg) ∧ Φ z1 S' 2700) ∧ fr (fun g => g < 1000 ∧ g ≠ 12 ∧ g ≠ 28 ∨ 3001 ≤ g ∧ g ≤ 3016 ∨ n + 12 ≤ g ∧ g ≤ n + 16) z z1
  have oY : ∀ {y : ow_MS}, fr frC z0 y → oNet y n A sg := fun hf => oNet_C hn hn3 hf hO0
  have Q2 : ∀ {y : ow_MS}, fr frC z0 y → fr (fun g => g < 1000 ∧ g ≠ 12 ∧ g ≠ 28 ∨ 3001 ≤ g ∧ g ≤ 3016 ∨ n + 12 ≤ g ∧ g ≤ n + 16) z y := fun hf => fr_tr f0' (fr_mono (fun g hg => by unfold frC at hg; omega) hf)
  have out : ∀ (k f : Nat) (y : ow_MS), f + k = F → fr frC z0 y → (∃ L2, L2 ≤ f ∧ ∃ S1, adS S S1 (O4L A sg M f) ∧ Φ y S1 L2) → Tt (fun K i => q_X13_threeChange K i 1 (nI f) 0 0 0 0 n 0 0 0 y) Q := by
    intro k
    induction k with
    | zero =>
      intro f y hf9 hf ⟨L2, hL2, S1, hS1, ho⟩
      refine u_X13_threeChange_1 ?_; unfold qm_X13_threeChange_1
      exact w_rdF (x := nI F) (by rw [(hf (n + 16) (by unfold frC; omega)).1]; exact F16) (w_leT (by omega) (by omega) (w_some ⟨⟨S1, adS_eq hS1 (fun A' sg' => ⟨fun ⟨s, f', _, _, h3⟩ => ⟨s, h3⟩, fun ⟨s, h3⟩ => by
        obtain ⟨f', h1, h2⟩ := Fm s h3.1
        exact ⟨s, f', by omega, h2, h3⟩⟩), hΦ.2.2 _ _ _ _ (by omega) ho⟩, Q2 hf⟩))
    | succ k ih =>
      intro f y hf9 hf hLo
      have c8 : ∀ (y2 : ow_MS), fr frC z0 y2 → (∃ L2, L2 ≤ f + 1 ∧ ∃ S1, adS S S1 (O4L A sg M (f + 1)) ∧ Φ y2 S1 L2) → Tt (fun K i => q_X13_threeChange K i 8 (nI f) 0 0 0 0 n 0 0 0 y2) Q := by
        intro y2 hf2 ho2
        refine u_X13_threeChange_8 ?_; unfold qm_X13_threeChange_8
        rw [nI_1]
        exact ih (f + 1) y2 (by omega) hf2 ho2
      have e15 : y.2.1 (n + 15) f = nI (cE M (nI f) (2 * A.flatten.length)) := by
        rw [(hf (n + 15) (by unfold frC; omega)).2.1]
        exact Fs f (by omega)
      have hce := cE_le (M := M) (x := nI f) (2 * A.flatten.length)
      obtain ⟨L2, hL2, S1, hS1, ho⟩ := hLo
      refine u_X13_threeChange_1 ?_; unfold qm_X13_threeChange_1
      refine w_rdF (x := nI F) (by rw [(hf (n + 16) (by unfold frC; omega)).1]; exact F16) (w_leF (by omega) (by omega) (w_rdI (pl15 hn) rfl (by omega) e15 (w_eqN (b := 3) (by omega) (by omega) (fun h3 => ?_) (fun h3 => c8 y hf ⟨L2, by omega, S1, adS_eq hS1 (fun A' sg' => O4L_n (fun A2 sg2 => t4_noface hd (by rw [fl_len]; exact h3) (fun Lb hLb => orb9 Lb hLb f (by omega)) (w2 f (by omega)))), ho⟩))))
      have hlen3 : (fl M f (2 * A.flatten.length)).length = 3 := by rw [fl_len]; exact h3
      -- the three sides are collected
      have col : ∀ (k s : Nat) (x4 : Int32) (y : ow_MS), s + k = 2 * A.flatten.length → fr frC z0 y → Φ y S1 L2 → (x4 = 0 ∧ (∀ t, t ∈ fl M f s → ¬ t4o A t) ∨ x4 = 1 ∧ ∃ t, t ∈ fl M f s ∧ t4o A t) → (∀ i t, (fl M f s)[i]? = some t → y.2.1 33 i = nI (t / 2) ∧ y.2.1 34 i = nI (crs A (hdv A t))) → Tt (fun K i => q_X13_threeChange K i 2 (nI f) (nI (fl M f s).length) x4 (nI s) 0 n 0 0 0 y) Q := by
        intro k
        induction k with
        | zero =>
          intro s x4 y hs hf ho hx4 hcol
          have o2 := oY hf
          have hse : s = 2 * A.flatten.length := by omega
          rw [hse] at hcol hx4 ⊢
          -- the three of them
          obtain ⟨s0, s1, s2, hfl⟩ : ∃ s0 s1 s2, fl M f (2 * A.flatten.length) = [s0, s1, s2] := by
            match hfl : fl M f (2 * A.flatten.length), hlen3 with
            | [a, b, c], _ => exact ⟨a, b, c, rfl⟩
          have nd : (fl M f (2 * A.flatten.length)).Nodup := nodup_filter List.nodup_range
          have memf : ∀ t, t ∈ fl M f (2 * A.flatten.length) ↔ t < 2 * A.flatten.length ∧ M t = nI f := fun t => by
            unfold fl
            rw [List.mem_filter, List.mem_range, decide_eq_true_iff]
          rw [hfl] at hcol nd memf hx4
          have g0 := hcol 0 s0 rfl
          have g1 := hcol 1 s1 rfl
          have g2 := hcol 2 s2 rfl
          have m0 := (memf s0).mp (by simp)
          have m1 := (memf s1).mp (by simp)
          have m2 := (memf s2).mp (by simp)
          have hnd : s0 ≠ s1 ∧ s0 ≠ s2 ∧ s1 ≠ s2 := by
            simp only [List.nodup_cons, List.mem_cons, List.not_mem_nil, or_false, not_or] at nd
            exact ⟨nd.1.1, nd.1.2, nd.2.1⟩
          have x0 := (o2.cx (hdv_lt m0.1)).1
          have x1 := (o2.cx (hdv_lt m1.1)).1
          have x2 := (o2.cx (hdv_lt m2.1)).1
          have hcl9 : ∀ s, (s = s0 ∨ s = s1 ∨ s = s2) → phi A sg s = s0 ∨ phi A sg s = s1 ∨ phi A sg s = s2 := fun s hs9 => by
            have hms : s < 2 * A.flatten.length ∧ M s = nI f := by
              rcases hs9 with e | e | e <;> rw [e] <;> assumption
            have hp := (w2 f (by omega) s hms.1).mp hms.2
            have := (memf (phi A sg s)).mpr ⟨phi_lt hd hms.1, hp⟩
            simpa using this
          have face9 : ∀ A' sg', (∃ s, M s = nI f ∧ O4s A sg s A' sg') ↔ t4P A s0 s1 s2 A' ∧ sg' = sg := fun A' sg' => t4_face hd ⟨m0.1, m1.1, m2.1⟩ hnd memf hcl9 (fun Lb hLb => ⟨orb9 Lb hLb f (by omega) s0 s1 m0.1 m1.1 m0.2 m1.2, orb9 Lb hLb f (by omega) s0 s2 m0.1 m2.1 m0.2 m2.2⟩)
          have c8' : (∀ A', ¬ t4P A s0 s1 s2 A') → Tt (fun K i => q_X13_threeChange K i 8 (nI f) 0 0 0 0 n 0 0 0 y) Q := fun hno => c8 y hf ⟨L2, by omega, S1, adS_eq hS1 (fun A' sg' => O4L_n (fun A2 sg2 h7 => hno A2 ((face9 A2 sg2).mp h7).1)), ho⟩
          refine u_X13_threeChange_2 ?_; unfold qm_X13_threeChange_2
          refine w_rdF o2.1.V ?_
          rw [rn_mul2]
          refine w_leT (by omega) (by omega) (w_if (fun hx0 => c8' (fun A' h7 => by
            rcases hx4 with ⟨-, h6⟩ | ⟨h6, -⟩
            · rcases h7.2.1 with h5 | h5 | h5
              · exact h6 s0 (by simp) h5
              · exact h6 s1 (by simp) h5
              · exact h6 s2 (by simp) h5
            · rw [h6] at hx0
              exact absurd hx0 (by decide))) (fun hx0 => w_rdI ml34 nI_0.symm (by omega) g0.2 (w_rdI ml34 (show (1 : Int32) = nI 1 from rfl) (by omega) g1.2 (w_eqN (by omega) (by omega) (fun e => c8' (fun A' h7 => h7.1.1 e)) (fun c01 => w_rdI ml34 nI_0.symm (by omega) g0.2 (w_rdI ml34 (show (2 : Int32) = nI 2 from rfl) (by omega) g2.2 (w_eqN (by omega) (by omega) (fun e => c8' (fun A' h7 => h7.1.2.1 e)) (fun c02 => w_rdI ml34 (show (1 : Int32) = nI 1 from rfl) (by omega) g1.2 (w_rdI ml34 (show (2 : Int32) = nI 2 from rfl) (by omega) g2.2 (w_eqN (by omega) (by omega) (fun e => c8' (fun A' h7 => h7.1.2.2 e)) (fun c12 => w_cs0 (tn_copy pn3 hn (fun e => hn3 e.symm) (by omega) (by omega) o2.1.1) (fun y1 hy1 => ?_)))))))))))) 
          obtain ⟨q1, q2, q3⟩ := hy1
          have tp9 := tri_pairs (sg := sg) hd ⟨m0.1, m1.1, m2.1⟩ hnd hcl9 c01 c02 c12
          have hP9 : t4P A s0 s1 s2 (t4A A s0 s1 s2) := by
            refine ⟨⟨c01, c02, c12⟩, ?_, rfl⟩
            rcases hx4 with ⟨h6, -⟩ | ⟨-, t, h5, h6⟩
            · exact absurd h6 hx0
            · rcases (show t = s0 ∨ t = s1 ∨ t = s2 by simpa using h5) with e | e | e <;> rw [e] at h6
              · exact Or.inl h6
              · exact Or.inr (Or.inl h6)
              · exact Or.inr (Or.inr h6)
          clear c01 c02 c12 hnd nd memf hcl9 c8'
          obtain ⟨d0, d1, d2, e01, e12, e20⟩ := tp9
          have n0 := rn_nx_lt (A := A) (v := s0 / 2) (by omega)
          have n1 := rn_nx_lt (A := A) (v := s1 / 2) (by omega)
          have n2 := rn_nx_lt (A := A) (v := s2 / 2) (by omega)
          obtain ⟨sw1, sw2'⟩ := sw_three (v0 := s0 / 2) (w0 := rn_nx A (s0 / 2)) (v1 := s1 / 2) (w1 := rn_nx A (s1 / 2)) (v2 := s2 / 2) (w2 := rn_nx A (s2 / 2)) (V := A.flatten.length) ⟨by omega, n0, by omega, n1, by omega, n2⟩ e01 e12 e20
          have fr1 : fr frC z0 y1 := fr_tr hf (fr_mono (fun g hg => Or.inr (by omega)) q2)
          have o1 : rn_lk y1 n A := (oY fr1).1
          have gv : ∀ v, v < A.flatten.length → y1.2.1 3004 v = nI (vAt A v).1 ∧ y1.2.1 3005 v = nI (vAt A v).2 := fun v hv => q1.2.2.2 v _ (by rw [List.append_nil]; exact vAt_of hv)
          have e33 : ∀ {y2 : ow_MS}, fr (fun g => 3004 ≤ g ∧ g ≤ 3005) y1 y2 → y2.2.1 33 = y.2.1 33 := fun hfy => by rw [(hfy 33 (by omega)).2.1, (q2 33 (by omega)).2.1]
          rw [hfl]
          show Tt (fun K i9 => q_X13_threeChange K i9 7 (nI f) (nI 3) x4 (nI 0) 0 n 0 0 0 y1) Q
          refine tri_step (i := 0) (s := s0) (G := fun v => vAt A v) hn hn3 hl (by omega) m0.1 (by rw [e33 fr_rf]; exact g0.1) d0 rfl rfl o1 fr_rf gv (fun y2 fy2 hy2 => ?_)
          refine tri_step (i := 1) (s := s1) (G := fun v => vAt A (sw2 (s0 / 2) (rn_nx A (s0 / 2)) v)) hn hn3 hl (by omega) m1.1 (by rw [e33 fy2]; exact g1.1) d1 ?_ ?_ o1 fy2 hy2 (fun y3 fy3 hy3 => ?_)
          · show vAt A (sw2 _ _ _) = _
            rw [sw2_ne e01 (Or.inl rfl)]
          · show vAt A (sw2 _ _ _) = _
            rw [sw2_ne e01 (Or.inr rfl)]
          · refine tri_step (i := 2) (s := s2) (G := fun v => vAt A (sw2 (s0 / 2) (rn_nx A (s0 / 2)) (sw2 (s1 / 2) (rn_nx A (s1 / 2)) v))) hn hn3 hl (by omega) m2.1 (by rw [e33 fy3]; exact g2.1) d2 ?_ ?_ o1 fy3 hy3 (fun y4 fy4 hy4 => ?_)
            · show vAt A (sw2 _ _ (sw2 _ _ _)) = _
              rw [sw2_ne e12 (Or.inl rfl), sw2_ne (dj4_sy e20) (Or.inl rfl)]
            · show vAt A (sw2 _ _ (sw2 _ _ _)) = _
              rw [sw2_ne e12 (Or.inr rfl), sw2_ne (dj4_sy e20) (Or.inr rfl)]
            · have fr4 : fr frC z0 y4 := fr_tr fr1 (fr_mono (fun g hg => Or.inr (by omega)) fy4)
              have hA4 : rn_At y4 3000 (rsh A (fun v => vAt A (sw2 (s0 / 2) (rn_nx A (s0 / 2)) (sw2 (s1 / 2) (rn_nx A (s1 / 2)) (sw2 (s2 / 2) (rn_nx A (s2 / 2)) v)))) A.length) [] := At_rsh q1 (fy4 3001 (by omega)).1 (fy4 3002 (by omega)).1 (fy4 3003 (by omega)).2.1 hy4
              have hlF : (rsh A (fun v => vAt A (sw2 (s0 / 2) (rn_nx A (s0 / 2)) (sw2 (s1 / 2) (rn_nx A (s1 / 2)) (sw2 (s2 / 2) (rn_nx A (s2 / 2)) v)))) A.length).flatten = (List.range A.flatten.length).map (fun v => vAt A (sw2 (s0 / 2) (rn_nx A (s0 / 2)) (sw2 (s1 / 2) (rn_nx A (s1 / 2)) (sw2 (s2 / 2) (rn_nx A (s2 / 2)) v)))) := by
                rw [rsh_fl _ (Nat.le_refl _), rn_b_len]
              have hsg4 : rn_sg y4 3000 (t4A A s0 s1 s2).flatten sg := by
                intro p hp
                have hp : p ∈ (rsh A (fun v => vAt A (sw2 (s0 / 2) (rn_nx A (s0 / 2)) (sw2 (s1 / 2) (rn_nx A (s1 / 2)) (sw2 (s2 / 2) (rn_nx A (s2 / 2)) v)))) A.length).flatten := hp
                rw [hlF] at hp
                obtain ⟨v, hv, e⟩ := List.mem_map.mp hp
                have hvl := sw1 v (List.mem_range.mp hv)
                rw [← e]
                obtain ⟨k1, k2, k3⟩ := o2.cx hvl
                show y4.2.1 3006 (crs A _) = _
                rw [(fy4 3006 (by omega)).2.1, show y1.2.1 3006 (crs A _) = y.2.1 (n + 6) (crs A _) from q3 _ (by omega)]
                exact k3
              have hlen4 : (t4A A s0 s1 s2).flatten.length ≤ 24 := by
                have : (t4A A s0 s1 s2).flatten = _ := hlF
                rw [this, List.length_map, List.length_range]
                exact hl
              have hcn4 : (t4A A s0 s1 s2).length ≤ 6 := by
                unfold t4A rsh
                rw [List.length_map, List.length_range]
                exact hC
              have ho4 : Φ y4 S1 L2 := hΦ.1 _ _ _ _ _ fy4 (fun g hg => by omega) (hΦ.1 _ _ _ _ _ q2 (fun g hg => by omega) ho)
              refine u_X13_threeChange_7 ?_; unfold qm_X13_threeChange_7
              refine w_leT (a := 3) (by omega) (by omega) (w_cs0 (hΦ.2.1 y4 S1 L2 (t4A A s0 s1 s2) sg (by omega) ho4 hA4 hsg4 (wkF_sw hO.wk sw1 sw2') hlen4 hcn4) (fun y5 ⟨⟨S3, k1, k3⟩, k2⟩ => c8 y5 (fr_tr fr4 (fr_mono (fun g hg => by unfold frO at hg; unfold frC; omega) k2)) ⟨L2 + 1, by omega, S3, adS_eq (adS_tr hS1 k1) (fun A' sg' => by
                rw [← O4L_s, face9 A' sg']
                exact ⟨fun h7 => h7.imp id (fun ⟨e1, e2⟩ => ⟨by rw [e1]; exact hP9, e2⟩), fun h7 => h7.imp id (fun ⟨e1, e2⟩ => ⟨e1.2.2, e2⟩)⟩), k3⟩))
        | succ k ihc =>
          intro s x4 y hs hf ho hx4 hcol
          have o2 := oY hf
          have hsl : s < 2 * A.flatten.length := by omega
          have e14 : y.2.1 (n + 14) s = M s := by rw [(hf (n + 14) (by unfold frC; omega)).2.1, hM]
          have hhl := hdv_lt hsl
          have hnl := rn_nx_lt (A := A) (v := s / 2) (by omega)
          have c6 : ∀ (y2 : ow_MS) (x9 : Int32), fr frC z0 y2 → Φ y2 S1 L2 → (x9 = 0 ∧ (∀ t, t ∈ fl M f (s + 1) → ¬ t4o A t) ∨ x9 = 1 ∧ ∃ t, t ∈ fl M f (s + 1) ∧ t4o A t) → (∀ i t, (fl M f (s + 1))[i]? = some t → y2.2.1 33 i = nI (t / 2) ∧ y2.2.1 34 i = nI (crs A (hdv A t))) → Tt (fun K i => q_X13_threeChange K i 6 (nI f) (nI (fl M f (s + 1)).length) x9 (nI s) 0 n 0 0 0 y2) Q := by
            intro y2 x9 hf2 ho2 hx9 hcol2
            refine u_X13_threeChange_6 ?_; unfold qm_X13_threeChange_6
            rw [nI_1]
            exact ihc (s + 1) x9 y2 (by omega) hf2 ho2 hx9 hcol2
          refine u_X13_threeChange_2 ?_; unfold qm_X13_threeChange_2
          refine w_rdF o2.1.V ?_
          rw [rn_mul2]
          refine w_leF (by omega) (by omega) (w_rdI (pl14 hn) rfl (by omega) e14 (w_if (fun hMs => ?_) (fun hMs => ?_)))
          · have hfs : fl M f (s + 1) = fl M f s ++ [s] := by rw [fl_s, if_pos hMs]
            have hk3 : (fl M f s).length < 3 := by
              have h9 := cE_mono (M := M) (x := nI f) (a := s + 1) (b := 2 * A.flatten.length) (by omega)
              rw [← fl_len, ← fl_len, hfs, List.length_append] at h9
              have : (fl M f s).length + 1 ≤ (fl M f (2 * A.flatten.length)).length := h9
              omega
            rw [rn_shr1 (by omega)]
            refine w_wrI ml33 rfl hk3 ?_
            have f33 : fr (fun g => g = 33) y (usI y 33 (fl M f s).length (nI (s / 2))) := fr_I rfl
            have o3 := oNet_fr f33 (fun g hg => by omega) o2
            have c3 : Tt (fun K i => q_X13_threeChange K i 3 (nI f) (nI (fl M f s).length) x4 (nI s) (nI (s / 2)) n (nI (hdv A s)) 0 (nI (fl M f s).length) (usI y 33 (fl M f s).length (nI (s / 2)))) Q := by
              have f34 : fr (fun g => g = 33 ∨ g = 34) y (usI (usI y 33 (fl M f s).length (nI (s / 2))) 34 (fl M f s).length (nI (crs A (hdv A s)))) := fr_I2 (fr_I (Or.inl rfl)) (Or.inr rfl)
              have o4 := oNet_fr f34 (fun g hg => by omega) o2
              have c5 : ∀ (t0 t1 : Int32), ((t1 ||| t0) = 0 ∧ (∀ t, t ∈ fl M f (s + 1) → ¬ t4o A t) ∨ (t1 ||| t0) = 1 ∧ ∃ t, t ∈ fl M f (s + 1) ∧ t4o A t) → Tt (fun K i => q_X13_threeChange K i 5 (nI f) (nI (fl M f s).length) x4 (nI s) (nI (s / 2)) n t0 t1 0 (usI (usI y 33 (fl M f s).length (nI (s / 2))) 34 (fl M f s).length (nI (crs A (hdv A s))))) Q := by
                intro t0 t1 hx9
                have := c6 (usI (usI y 33 (fl M f s).length (nI (s / 2))) 34 (fl M f s).length (nI (crs A (hdv A s)))) (t1 ||| t0) (fr_tr hf (fr_mono (fun g hg => Or.inl (by omega)) f34)) (hΦ.1 _ _ _ _ _ f34 (fun g hg => by omega) ho) hx9 (by
                  rw [hfs]
                  intro i t hi
                  by_cases hil : i < (fl M f s).length
                  · rw [List.getElem?_append_left hil] at hi
                    obtain ⟨k1, k2⟩ := hcol i t hi
                    exact ⟨rd_ot (by decide) (rd_ne (by omega) k1), rd_ne (by omega) (rd_ot (by decide) k2)⟩
                  · have hie : i = (fl M f s).length := by
                      have := (List.getElem?_eq_some_iff.mp hi).1
                      rw [List.length_append] at this
                      have : i < (fl M f s).length + 1 := this
                      omega
                    subst hie
                    rw [List.getElem?_append_right (Nat.le_refl _), Nat.sub_self] at hi
                    cases hi
                    exact ⟨rd_ot (by decide) po_usI_at, po_usI_at⟩)
                rw [hfs, List.length_append] at this
                refine u_X13_threeChange_5 ?_; unfold qm_X13_threeChange_5
                rw [nI_1]
                exact this
              have c4 : ¬ t4o A s → Tt (fun K i => q_X13_threeChange K i 4 (nI f) (nI (fl M f s).length) x4 (nI s) (nI (s / 2)) n x4 0 0 (usI (usI y 33 (fl M f s).length (nI (s / 2))) 34 (fl M f s).length (nI (crs A (hdv A s))))) Q := by
                intro hno
                refine u_X13_threeChange_4 ?_; unfold qm_X13_threeChange_4
                refine c5 _ _ ?_
                rw [hfs]
                rcases hx4 with ⟨h6, h7⟩ | ⟨h6, t, h7, h8⟩
                · refine Or.inl ⟨by rw [h6]; rfl, fun t ht => ?_⟩
                  rcases List.mem_append.mp ht with h9 | h9
                  · exact h7 t h9
                  · rw [List.mem_singleton.mp h9]
                    exact hno
                · exact Or.inr ⟨by rw [h6]; rfl, t, List.mem_append_left _ h7, h8⟩
              have c5' : t4o A s → Tt (fun K i => q_X13_threeChange K i 5 (nI f) (nI (fl M f s).length) x4 (nI s) (nI (s / 2)) n 1 x4 0 (usI (usI y 33 (fl M f s).length (nI (s / 2))) 34 (fl M f s).length (nI (crs A (hdv A s))))) Q := by
                intro hyes
                refine c5 _ _ (Or.inr ⟨?_, s, by rw [hfs]; exact List.mem_append_right _ (List.mem_singleton.mpr rfl), hyes⟩)
                rcases hx4 with ⟨h6, -⟩ | ⟨h6, -⟩ <;> rw [h6] <;> rfl
              have u1 := (lk_cu o4.1 (i := s / 2) (by omega)).2
              have u2 := (lk_cu o4.1 (i := rn_nx A (s / 2)) hnl).2
              have ul1 : uns A (s / 2) < 2 := (hd.1.2 (s / 2) _ (vAt_of (by omega))).2
              have ul2 : uns A (rn_nx A (s / 2)) < 2 := (hd.1.2 (rn_nx A (s / 2)) _ (vAt_of hnl)).2
              refine u_X13_threeChange_3 ?_; unfold qm_X13_threeChange_3
              exact w_rdI (pl4 hn) rfl (by omega) (lk_cu o3.1 hhl).1 (w_wrI ml34 rfl hk3 (w_rdI (pl5 hn) rfl (by omega) u1 (w_eqN (b := 0) (by omega) (by omega) (fun a1 => w_rdI (pl9 hn) rfl (by omega) (lk_n o4.1 (by omega)) (w_rdI (pl5 hn) rfl (by omega) u2 (w_eqN (b := 0) (by omega) (by omega) (fun a2 => c5' ⟨a1, a2⟩) (fun a2 => c4 (fun h7 => a2 h7.2))))) (fun a1 => c4 (fun h7 => a1 h7.1)))))
            rw [rn_and1 (by omega)]
            refine w_eqN (b := 0) (by omega) (by omega) (fun h9 => w_rdI (pl9 hn) rfl (by omega) (lk_n o3.1 (by omega)) ?_) (fun h9 => ?_)
            · unfold hdv at c3
              rw [if_pos h9] at c3
              exact c3
            · unfold hdv at c3
              rw [if_neg h9] at c3
              exact c3
          · have hfs : fl M f (s + 1) = fl M f s := by rw [fl_s, if_neg hMs, List.append_nil]
            have := c6 y x4 hf ho (by rw [hfs]; exact hx4) (by rw [hfs]; exact hcol)
            rw [hfs] at this
            exact this
      exact col _ 0 0 y (Nat.zero_add _) hf ho (Or.inl ⟨rfl, fun t ht => by simp [fl] at ht⟩) (fun i t hi => by simp [fl] at hi)
  exact out F 0 z0 (by omega) fr_rf ⟨0, Nat.le_refl _, S, adS_eq adS_rf (fun A' sg' => ⟨fun h9 => h9.elim, fun ⟨s, f', h1, _⟩ => by omega⟩), h0⟩
end XK4b
