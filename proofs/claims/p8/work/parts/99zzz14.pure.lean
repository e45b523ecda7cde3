section
/-! 99zzzzzzzzzzzc.xk4 -/
/-! exact: moves of kind 4 of the reference -/
def t4A (A : rn_L) (a b c : Nat) : rn_L := rsh A (fun v => vAt A (sw2 (a / 2) (rn_nx A (a / 2)) (sw2 (b / 2) (rn_nx A (b / 2)) (sw2 (c / 2) (rn_nx A (c / 2)) v)))) A.length
def t4o (A : rn_L) (s : Nat) : Prop := uns A (s / 2) = 0 ∧ uns A (rn_nx A (s / 2)) = 0
def t4P (A : rn_L) (a b c : Nat) (A' : rn_L) : Prop := (crs A (hdv A a) ≠ crs A (hdv A b) ∧ crs A (hdv A a) ≠ crs A (hdv A c) ∧ crs A (hdv A b) ≠ crs A (hdv A c)) ∧ (t4o A a ∨ t4o A b ∨ t4o A c) ∧ A' = t4A A a b c
def O4s (A : rn_L) (sg : Nat → Bool) (s : Nat) (A' : rn_L) (sg' : Nat → Bool) : Prop := s < 2 * A.flatten.length ∧ sg' = sg ∧ phi A sg (phi A sg (phi A sg s)) = s ∧ t4P A s (phi A sg s) (phi A sg (phi A sg s)) A'
def O4 (A : rn_L) (sg : Nat → Bool) (A' : rn_L) (sg' : Nat → Bool) : Prop := ∃ s, O4s A sg s A' sg'
def O4L (A : rn_L) (sg : Nat → Bool) (M : Nat → Int32) (f : Nat) (A' : rn_L) (sg' : Nat → Bool) : Prop := ∃ s f', f' < f ∧ M s = nI f' ∧ O4s A sg s A' sg'
section XK4
variable {A : rn_L} {sg : Nat → Bool} {A' : rn_L} {sg' : Nat → Bool} {a b c f : Nat} {M : Nat → Int32}
def dj3 (A : rn_L) (a b c : Nat) : Prop := dj4 (a / 2) (rn_nx A (a / 2)) (b / 2) (rn_nx A (b / 2)) ∧ dj4 (b / 2) (rn_nx A (b / 2)) (c / 2) (rn_nx A (c / 2)) ∧ dj4 (c / 2) (rn_nx A (c / 2)) (a / 2) (rn_nx A (a / 2))
theorem sw2_cm {a b c d p : Nat} (h : dj4 a b c d) : sw2 a b (sw2 c d p) = sw2 c d (sw2 a b p) := sw2_comm h.1 h.2.1 h.2.2.1 h.2.2.2
theorem t4A_rot (h : dj3 A a b c) : t4A A a b c = t4A A b c a := by
  unfold t4A
  congr 1
  funext v
  rw [sw2_cm h.1, sw2_cm (dj4_sy h.2.2)]
theorem t4A_sw (h : dj3 A a b c) : t4A A a b c = t4A A a c b := by
  unfold t4A
  congr 1
  funext v
  rw [sw2_cm h.2.1]
theorem t4P_rot (h : dj3 A a b c) : t4P A a b c A' ↔ t4P A b c a A' := by
  unfold t4P
  rw [t4A_rot h]
  constructor
  · rintro ⟨⟨h1, h2, h3⟩, h4, h5⟩
    exact ⟨⟨h3, h1.symm, h2.symm⟩, by rcases h4 with h4 | h4 | h4 <;> simp [h4], h5⟩
  · rintro ⟨⟨h1, h2, h3⟩, h4, h5⟩
    exact ⟨⟨h2.symm, h3.symm, h1⟩, by rcases h4 with h4 | h4 | h4 <;> simp [h4], h5⟩
theorem t4P_sw (h : dj3 A a b c) : t4P A a b c A' ↔ t4P A a c b A' := by
  unfold t4P
  rw [t4A_sw h]
  constructor
  · rintro ⟨⟨h1, h2, h3⟩, h4, h5⟩
    exact ⟨⟨h2, h1, h3.symm⟩, by rcases h4 with h4 | h4 | h4 <;> simp [h4], h5⟩
  · rintro ⟨⟨h1, h2, h3⟩, h4, h5⟩
    exact ⟨⟨h2, h1, h3.symm⟩, by rcases h4 with h4 | h4 | h4 <;> simp [h4], h5⟩
theorem dj3_rot (h : dj3 A a b c) : dj3 A b c a := ⟨h.2.1, h.2.2, h.1⟩
theorem dj3_sw (h : dj3 A a b c) : dj3 A a c b := ⟨dj4_sy h.2.2, dj4_sy h.2.1, dj4_sy h.1⟩
/-- a face of three sides is one turn of three -/
theorem tri_cyc (hd : rn_ok A.flatten) (h : a < 2 * A.flatten.length ∧ b < 2 * A.flatten.length ∧ c < 2 * A.flatten.length) (hne : a ≠ b ∧ a ≠ c ∧ b ≠ c) (hcl : ∀ s, (s = a ∨ s = b ∨ s = c) → phi A sg s = a ∨ phi A sg s = b ∨ phi A sg s = c) (orb : ∀ Lb : Nat → Nat, (∀ s, s < 2 * A.flatten.length → Lb (phi A sg s) = Lb s) → Lb a = Lb b ∧ Lb a = Lb c) : (phi A sg a = b ∧ phi A sg b = c ∧ phi A sg c = a) ∨ (phi A sg a = c ∧ phi A sg c = b ∧ phi A sg b = a) := by
  have i01 : phi A sg a ≠ phi A sg b := fun e => hne.1 (phi_inj hd h.1 h.2.1 e)
  have i02 : phi A sg a ≠ phi A sg c := fun e => hne.2.1 (phi_inj hd h.1 h.2.2 e)
  have i12 : phi A sg b ≠ phi A sg c := fun e => hne.2.2 (phi_inj hd h.2.1 h.2.2 e)
  have p0 := hcl a (Or.inl rfl)
  have p1 := hcl b (Or.inr (Or.inl rfl))
  have p2 := hcl c (Or.inr (Or.inr rfl))
  have one : phi A sg a ≠ a := fun e => by
    have := (orb (fun t => if t = a then 1 else 0) (fun s hs => by
      show (if _ then _ else _) = if _ then _ else _
      by_cases e1 : s = a
      · rw [e1, e]
      · rw [if_neg e1, if_neg (fun e2 => e1 (phi_inj hd hs h.1 (e2.trans e.symm)))])).1
    have : (if a = a then 1 else 0) = if b = a then 1 else 0 := this
    rw [if_pos rfl, if_neg (fun e => hne.1 e.symm)] at this
    cases this
  have two : ∀ x y, (x = a ∧ (y = b ∧ phi A sg c = c ∨ y = c ∧ phi A sg b = b)) → ¬ (phi A sg x = y ∧ phi A sg y = x) := by
    rintro x y ⟨rfl, hy⟩ ⟨e1, e2⟩
    have := orb (fun t => if t = x ∨ t = y then 1 else 0) (fun s hs => by
      show (if _ then _ else _) = if _ then _ else _
      have hyl : y < 2 * A.flatten.length := by omega
      by_cases e3 : s = x ∨ s = y
      · rw [if_pos e3, if_pos]
        rcases e3 with e3 | e3 <;> rw [e3]
        · exact Or.inr e1
        · exact Or.inl e2
      · rw [if_neg e3, if_neg]
        rintro (e4 | e4)
        · exact e3 (Or.inr (phi_inj hd hs hyl (e4.trans e2.symm)))
        · exact e3 (Or.inl (phi_inj hd hs h.1 (e4.trans e1.symm))))
    have t1 : (if x = x ∨ x = y then 1 else 0) = if b = x ∨ b = y then 1 else 0 := this.1
    have t2 : (if x = x ∨ x = y then 1 else 0) = if c = x ∨ c = y then 1 else 0 := this.2
    rw [if_pos (Or.inl rfl)] at t1 t2
    rcases hy with ⟨hy, -⟩ | ⟨hy, -⟩
    · rw [if_neg (by rintro (e | e) <;> omega)] at t2
      cases t2
    · rw [if_neg (by rintro (e | e) <;> omega)] at t1
      cases t1
  have two1 := two a b
  have two2 := two a c
  rcases p0 with p0 | p0 | p0
  · exact absurd p0 one
  · rcases p1 with p1 | p1 | p1
    · rcases p2 with p2 | p2 | p2
      · exact absurd (p1.trans p2.symm) i12
      · exact absurd (p0.trans p2.symm) i02
      · exact absurd ⟨p0, p1⟩ (two1 ⟨rfl, Or.inl ⟨rfl, p2⟩⟩)
    · exact absurd (p0.trans p1.symm) i01
    · rcases p2 with p2 | p2 | p2
      · exact Or.inl ⟨p0, p1, p2⟩
      · exact absurd (p0.trans p2.symm) i02
      · exact absurd (p1.trans p2.symm) i12
  · rcases p1 with p1 | p1 | p1
    · rcases p2 with p2 | p2 | p2
      · exact absurd (p1.trans p2.symm) i12
      · exact Or.inr ⟨p0, p2, p1⟩
      · exact absurd (p0.trans p2.symm) i02
    · rcases p2 with p2 | p2 | p2
      · exact absurd ⟨p0, p2⟩ (two2 ⟨rfl, Or.inr ⟨rfl, p1⟩⟩)
      · exact absurd (p1.trans p2.symm) i12
      · exact absurd (p0.trans p2.symm) i02
    · exact absurd (p0.trans p1.symm) i01
/-- what a face of three sides offers -/
theorem t4_face (hd : rn_ok A.flatten) (h : a < 2 * A.flatten.length ∧ b < 2 * A.flatten.length ∧ c < 2 * A.flatten.length) (hne : a ≠ b ∧ a ≠ c ∧ b ≠ c) (memf : ∀ t, t ∈ [a, b, c] ↔ t < 2 * A.flatten.length ∧ M t = nI f) (hcl : ∀ s, (s = a ∨ s = b ∨ s = c) → phi A sg s = a ∨ phi A sg s = b ∨ phi A sg s = c) (orb : ∀ Lb : Nat → Nat, (∀ s, s < 2 * A.flatten.length → Lb (phi A sg s) = Lb s) → Lb a = Lb b ∧ Lb a = Lb c) : (∃ s, M s = nI f ∧ O4s A sg s A' sg') ↔ t4P A a b c A' ∧ sg' = sg := by
  have dj : t4P A a b c A' → dj3 A a b c := fun h9 => (tri_pairs (sg := sg) hd h hne hcl h9.1.1 h9.1.2.1 h9.1.2.2).2.2.2
  have key : ∀ x y w, x < 2 * A.flatten.length → phi A sg x = y → phi A sg y = w → phi A sg w = x → (O4s A sg x A' sg' ↔ t4P A x y w A' ∧ sg' = sg) := by
    intro x y w hx e1 e2 e3
    unfold O4s
    rw [e1, e2, e3]
    exact ⟨fun ⟨_, h2, _, h4⟩ => ⟨h4, h2⟩, fun ⟨h4, h2⟩ => ⟨hx, h2, rfl, h4⟩⟩
  have back : ∀ x y w, (x = a ∧ y = b ∧ w = c ∨ x = b ∧ y = c ∧ w = a ∨ x = c ∧ y = a ∧ w = b ∨ x = a ∧ y = c ∧ w = b ∨ x = b ∧ y = a ∧ w = c ∨ x = c ∧ y = b ∧ w = a) → t4P A x y w A' → t4P A a b c A' := by
    intro x y w hx h9
    have hx' : (x = a ∨ x = b ∨ x = c) ∧ (y = a ∨ y = b ∨ y = c) ∧ (w = a ∨ w = b ∨ w = c) ∧ x ≠ y ∧ x ≠ w ∧ y ≠ w := by omega
    have d9 : dj3 A x y w := (tri_pairs (sg := sg) hd (s0 := x) (s1 := y) (s2 := w) (by omega) (by omega) (fun s hs => by
      have := hcl s (by omega)
      omega) h9.1.1 h9.1.2.1 h9.1.2.2).2.2.2
    rcases hx with ⟨e1, e2, e3⟩ | ⟨e1, e2, e3⟩ | ⟨e1, e2, e3⟩ | ⟨e1, e2, e3⟩ | ⟨e1, e2, e3⟩ | ⟨e1, e2, e3⟩ <;> subst e1 <;> subst e2 <;> subst e3
    · exact h9
    · exact (t4P_rot (dj3_rot d9)).mp ((t4P_rot d9).mp h9)
    · exact (t4P_rot d9).mp h9
    · exact (t4P_sw d9).mp h9
    · exact (t4P_rot (dj3_sw d9)).mp ((t4P_sw d9).mp h9) |> fun h8 => (t4P_rot (dj3_rot (dj3_sw d9))).mp h8
    · exact (t4P_rot (dj3_sw d9)).mp ((t4P_sw d9).mp h9)
  have cyc := tri_cyc hd h hne hcl orb
  constructor
  · rintro ⟨s, hM, hs⟩
    have hs' : s = a ∨ s = b ∨ s = c := by
      have := (memf s).mpr ⟨hs.1, hM⟩
      simpa using this
    rcases cyc with ⟨k1, k2, k3⟩ | ⟨k1, k2, k3⟩ <;> rcases hs' with e | e | e <;> rw [e] at hs
    · exact (key a b c h.1 k1 k2 k3).mp hs
    · obtain ⟨g1, g2⟩ := (key b c a h.2.1 k2 k3 k1).mp hs
      exact ⟨back b c a (by simp) g1, g2⟩
    · obtain ⟨g1, g2⟩ := (key c a b h.2.2 k3 k1 k2).mp hs
      exact ⟨back c a b (by simp) g1, g2⟩
    · obtain ⟨g1, g2⟩ := (key a c b h.1 k1 k2 k3).mp hs
      exact ⟨back a c b (by simp) g1, g2⟩
    · obtain ⟨g1, g2⟩ := (key b a c h.2.1 k3 k1 k2).mp hs
      exact ⟨back b a c (by simp) g1, g2⟩
    · obtain ⟨g1, g2⟩ := (key c b a h.2.2 k2 k3 k1).mp hs
      exact ⟨back c b a (by simp) g1, g2⟩
  · rintro ⟨h9, h8⟩
    refine ⟨a, ((memf a).mp (by simp)).2, ?_⟩
    rcases cyc with ⟨k1, k2, k3⟩ | ⟨k1, k2, k3⟩
    · exact (key a b c h.1 k1 k2 k3).mpr ⟨h9, h8⟩
    · exact (key a c b h.1 k1 k2 k3).mpr ⟨(t4P_sw (dj h9)).mp h9, h8⟩
/-- a face of another number of sides offers nothing -/
theorem t4_noface (hd : rn_ok A.flatten) (h3 : (fl M f (2 * A.flatten.length)).length ≠ 3) (orb : ∀ Lb : Nat → Nat, (∀ s, s < 2 * A.flatten.length → Lb (phi A sg s) = Lb s) → ∀ s s', s < 2 * A.flatten.length → s' < 2 * A.flatten.length → M s = nI f → M s' = nI f → Lb s = Lb s') (clo : ∀ s, s < 2 * A.flatten.length → (M s = nI f ↔ M (phi A sg s) = nI f)) : ¬ ∃ s, M s = nI f ∧ O4s A sg s A' sg' := by
  rintro ⟨s, hM, hs, -, h9, ⟨d1, d2, d3⟩, -⟩
  obtain ⟨x, hx⟩ : ∃ x, x = phi A sg s := ⟨_, rfl⟩
  obtain ⟨y, hy⟩ : ∃ y, y = phi A sg x := ⟨_, rfl⟩
  rw [← hx] at d1 d2 d3 h9
  rw [← hy] at d2 d3 h9
  have hxl : x < 2 * A.flatten.length := by rw [hx]; exact phi_lt hd hs
  have hyl : y < 2 * A.flatten.length := by rw [hy]; exact phi_lt hd hxl
  have hMx : M x = nI f := by rw [hx]; exact (clo s hs).mp hM
  have hMy : M y = nI f := by rw [hy]; exact (clo x hxl).mp hMx
  have nxy : s ≠ x ∧ s ≠ y ∧ x ≠ y := ⟨fun e => d1 (by rw [← e]), fun e => d2 (by rw [← e]), fun e => d3 (by rw [← e])⟩
  have all : ∀ t, t < 2 * A.flatten.length → M t = nI f → t = s ∨ t = x ∨ t = y := by
    intro t ht hMt
    have := orb (fun t => if t = s ∨ t = x ∨ t = y then 1 else 0) (fun u hu => by
      show (if _ then _ else _) = if _ then _ else _
      by_cases e3 : u = s ∨ u = x ∨ u = y
      · rw [if_pos e3, if_pos]
        rcases e3 with e3 | e3 | e3 <;> rw [e3]
        · exact Or.inr (Or.inl hx.symm)
        · exact Or.inr (Or.inr hy.symm)
        · exact Or.inl h9
      · rw [if_neg e3, if_neg]
        rintro (e4 | e4 | e4)
        · exact e3 (Or.inr (Or.inr (phi_inj hd hu hyl (e4.trans h9.symm))))
        · exact e3 (Or.inl (phi_inj hd hu hs (e4.trans hx)))
        · exact e3 (Or.inr (Or.inl (phi_inj hd hu hxl (e4.trans hy))))) s t hs ht hM hMt
    have this : (if s = s ∨ s = x ∨ s = y then 1 else 0) = if t = s ∨ t = x ∨ t = y then 1 else 0 := this
    rw [if_pos (Or.inl rfl)] at this
    by_cases e : t = s ∨ t = x ∨ t = y
    · exact e
    · rw [if_neg e] at this
      cases this
  apply h3
  have pm : (fl M f (2 * A.flatten.length)).Perm [s, x, y] := by
    refine (List.perm_ext_iff_of_nodup (nodup_filter List.nodup_range) ?_).mpr (fun t => ?_)
    · simp only [List.nodup_cons, List.mem_cons, List.not_mem_nil, or_false, not_or]
      exact ⟨⟨nxy.1, nxy.2.1⟩, nxy.2.2, fun h => h, List.nodup_nil⟩
    · rw [List.mem_filter, List.mem_range, decide_eq_true_iff]
      simp only [List.mem_cons, List.not_mem_nil, or_false]
      constructor
      · exact fun h8 => all t h8.1 h8.2
      · rintro (e | e | e) <;> rw [e]
        · exact ⟨hs, hM⟩
        · exact ⟨hxl, hMx⟩
        · exact ⟨hyl, hMy⟩
  exact pm.length_eq
theorem O4L_s : (O4L A sg M f A' sg' ∨ ∃ s, M s = nI f ∧ O4s A sg s A' sg') ↔ O4L A sg M (f + 1) A' sg' := by
  constructor
  · rintro (⟨s, f', h1, h2, h3⟩ | ⟨s, h2, h3⟩)
    · exact ⟨s, f', by omega, h2, h3⟩
    · exact ⟨s, f, by omega, h2, h3⟩
  · rintro ⟨s, f', h1, h2, h3⟩
    by_cases e : f' = f
    · rw [e] at h2
      exact Or.inr ⟨s, h2, h3⟩
    · exact Or.inl ⟨s, f', by omega, h2, h3⟩
theorem O4L_n (hno : ∀ A' sg', ¬ ∃ s, M s = nI f ∧ O4s A sg s A' sg') : O4L A sg M f A' sg' ↔ O4L A sg M (f + 1) A' sg' := by
  rw [← O4L_s]
  exact ⟨Or.inl, fun h => h.elim id (fun h9 => absurd h9 (hno A' sg'))⟩
end XK4
section XK4b
variable {Φ : ow_MS → (List Nat → Prop) → Nat → Prop} {n : Nat} {z : ow_MS} {A : rn_L} {sg : Nat → Bool} {S : List Nat → Prop}
theorem xr_three (hΦ : snkF Φ) (hn : mw_net n) (hn3 : n ≠ 3000) (hO : oNet z n A sg) (h : Φ z S 0) : Te (fun K => qe_X13_threeChange K n z) (fun z1 => (∃ S', adS S S' (O4 A sg) ∧ Φ z1 S' 2700) ∧ fr (fun g => g < 1000 ∧ g ≠ 12 ∧ g ≠ 28 ∨ 3001 ≤ g ∧ g ≤ 3016 ∨ n + 12 ≤ g ∧ g ≤ n + 16) z z1) := by
  have hmn := net_mod hn
  have hl := hO.len
  have hC := hO.2.2.2
  have hd := wkF_ok hO.wk
  refine e_X13_threeChange ?_
  refine u_X13_threeChange_0 ?_; unfold qm_X13_threeChange_0
  refine w_cs0 (te_all (α := Nat → Nat) (H := fun Lb => ∀ s, s < 2 * A.flatten.length → Lb (phi A sg s) = Lb s) (R := fun Lb z1 => fr (frW n) z z1 ∧ ∃ F, rn_fc z1 n A.flatten.length F ∧ wkF3 A sg Lb F (z1.2.1 (n + 14))) (tn_walk2 hn (by omega) hd hO.1 hO.2.1) (fun Lb hLb => xr_walk hn (by omega) hd hO.1 hO.2.1 hLb)) (fun z0 ⟨⟨f0, F, fc, w2⟩, hal⟩ => ?_)
  have orb9 : ∀ Lb : Nat → Nat, (∀ s, s < 2 * A.flatten.length → Lb (phi A sg s) = Lb s) → ∀ f', f' < F → ∀ s s', s < 2 * A.flatten.length → s' < 2 * A.flatten.length → z0.2.1 (n + 14) s = nI f' → z0.2.1 (n + 14) s' = nI f' → Lb s = Lb s' := by
    intro Lb hLb f' hf'
    obtain ⟨-, F', fc', w3⟩ := hal Lb hLb
    have e : F' = F := by
      have b1 := fc'.2.1
      have b2 := fc.2.1
      exact nI_inj9 (by omega) (by omega) (fc'.1.symm.trans fc.1)
    rw [e] at w3
    exact (w3.2 f' hf').2
  have f0' : fr (fun g => g < 1000 ∧ g ≠ 12 ∧ g ≠ 28 ∨ 3001 ≤ g ∧ g ≤ 3016 ∨ n + 12 ≤ g ∧ g ≤ n + 16) z z0 := fr_mono (fun g hg => by rcases hg with hg | hg | hg <;> omega) f0
  have hO0 : oNet z0 n A sg := oNet_fr f0 (fun g hg => by rcases hg with hg | hg | hg <;> omega) hO
  have h0 : Φ z0 S 0 := hΦ.1 _ _ _ _ _ f0 (fun g hg => by rcases hg with hg | hg | hg <;> omega) h
  obtain ⟨F16, F2, Fm, Fs⟩ := fc
  obtain ⟨M, hM⟩ : ∃ M, M = z0.2.1 (n + 14) := ⟨_, rfl⟩
  rw [← hM] at w2 Fm Fs orb9
  let Q : ow_MS → Prop := fun z1 => (∃ S', adS S S' (O4 A sg) ∧ Φ z1 S' 2700) ∧ fr (fun g => g < 1000 ∧ g ≠ 12 ∧ g ≠ 28 ∨ 3001 ≤ g ∧ g ≤ 3016 ∨ n + 12 ≤ g ∧ g ≤ n + 16) z z1
  have oY : ∀ {y : ow_MS}, fr frC z0 y → oNet y n A sg := fun hf => oNet_C hn hn3 hf hO0
  have Q2 : ∀ {y : ow_MS}, fr frC z0 y → fr (fun g => g < 1000 ∧ g ≠ 12 ∧ g ≠ 28 ∨ 3001 ≤ g ∧ g ≤ 3016 ∨ n + 12 ≤ g ∧ g ≤ n + 16) z y := fun hf => fr_tr f0' (fr_mono (fun g hg => by unfold frC at hg; omega) hf)
  have out : ∀ (k f : Nat) (y : ow_MS), f + k = F → fr frC z0 y → (∃ L2, L2 ≤ f ∧ ∃ S1, adS S S1 (O4L A sg M f) ∧ Φ y S1 L2) → Tt (fun K i => q_X13_threeChange K i 1 (nI f) 0 0 0 0 n 0 0 0 y) Q := by
    intro k
    induction k with
    | zero =>
      intro f y hf9 hf ⟨L2, hL2, S1, hS1, ho⟩
      refine u_X13_threeChange_1 ?_; unfold qm_X13_threeChange_1
      exact w_rdF (x := nI F) (by rw [(hf (n + 16) (by unfold frC; omega)).1]; exact F16) (w_leT (by omega) (by omega) (w_some ⟨⟨S1, adS_eq hS1 (fun A' sg' => ⟨fun ⟨s, f', _, _, h3⟩ => ⟨s, h3⟩, fun ⟨s, h3⟩ => by
        obtain ⟨f', h1, h2⟩ := Fm s h3.1
        exact ⟨s, f', by omega, h2, h3⟩⟩), hΦ.2.2 _ _ _ _ (by omega) ho⟩, Q2 hf⟩))
    | succ k ih =>
      intro f y hf9 hf hLo
      have c8 : ∀ (y2 : ow_MS), fr frC z0 y2 → (∃ L2, L2 ≤ f + 1 ∧ ∃ S1, adS S S1 (O4L A sg M (f + 1)) ∧ Φ y2 S1 L2) → Tt (fun K i => q_X13_threeChange K i 8 (nI f) 0 0 0 0 n 0 0 0 y2) Q := by
        intro y2 hf2 ho2
        refine u_X13_threeChange_8 ?_; unfold qm_X13_threeChange_8
        rw [nI_1]
        exact ih (f + 1) y2 (by omega) hf2 ho2
      have e15 : y.2.1 (n + 15) f = nI (cE M (nI f) (2 * A.flatten.length)) := by
        rw [(hf (n + 15) (by unfold frC; omega)).2.1]
        exact Fs f (by omega)
      have hce := cE_le (M := M) (x := nI f) (2 * A.flatten.length)
      obtain ⟨L2, hL2, S1, hS1, ho⟩ := hLo
      refine u_X13_threeChange_1 ?_; unfold qm_X13_threeChange_1
      refine w_rdF (x := nI F) (by rw [(hf (n + 16) (by unfold frC; omega)).1]; exact F16) (w_leF (by omega) (by omega) (w_rdI (pl15 hn) rfl (by omega) e15 (w_eqN (b := 3) (by omega) (by omega) (fun h3 => ?_) (fun h3 => c8 y hf ⟨L2, by omega, S1, adS_eq hS1 (fun A' sg' => O4L_n (fun A2 sg2 => t4_noface hd (by rw [fl_len]; exact h3) (fun Lb hLb => orb9 Lb hLb f (by omega)) (w2 f (by omega)))), ho⟩))))
      have hlen3 : (fl M f (2 * A.flatten.length)).length = 3 := by rw [fl_len]; exact h3
      -- the three sides are collected
      have col : ∀ (k s : Nat) (x4 : Int32) (y : ow_MS), s + k = 2 * A.flatten.length → fr frC z0 y → Φ y S1 L2 → (x4 = 0 ∧ (∀ t, t ∈ fl M f s → ¬ t4o A t) ∨ x4 = 1 ∧ ∃ t, t ∈ fl M f s ∧ t4o A t) → (∀ i t, (fl M f s)[i]? = some t → y.2.1 33 i = nI (t / 2) ∧ y.2.1 34 i = nI (crs A (hdv A t))) → Tt (fun K i => q_X13_threeChange K i 2 (nI f) (nI (fl M f s).length) x4 (nI s) 0 n 0 0 0 y) Q := by
        intro k
        induction k with
        | zero =>
          intro s x4 y hs hf ho hx4 hcol
          have o2 := oY hf
          have hse : s = 2 * A.flatten.length := by omega
          rw [hse] at hcol hx4 ⊢
          -- the three of them
          obtain ⟨s0, s1, s2, hfl⟩ : ∃ s0 s1 s2, fl M f (2 * A.flatten.length) = [s0, s1, s2] := by
            match hfl : fl M f (2 * A.flatten.length), hlen3 with
            | [a, b, c], _ => exact ⟨a, b, c, rfl⟩
          have nd : (fl M f (2 * A.flatten.length)).Nodup := nodup_filter List.nodup_range
          have memf : ∀ t, t ∈ fl M f (2 * A.flatten.length) ↔ t < 2 * A.flatten.length ∧ M t = nI f := fun t => by
            unfold fl
            rw [List.mem_filter, List.mem_range, decide_eq_true_iff]
          rw [hfl] at hcol nd memf hx4
          have g0 := hcol 0 s0 rfl
          have g1 := hcol 1 s1 rfl
          have g2 := hcol 2 s2 rfl
          have m0 := (memf s0).mp (by simp)
          have m1 := (memf s1).mp (by simp)
          have m2 := (memf s2).mp (by simp)
          have hnd : s0 ≠ s1 ∧ s0 ≠ s2 ∧ s1 ≠ s2 := by
            simp only [List.nodup_cons, List.mem_cons, List.not_mem_nil, or_false, not_or] at nd
            exact ⟨nd.1.1, nd.1.2, nd.2.1⟩
          have x0 := (o2.cx (hdv_lt m0.1)).1
          have x1 := (o2.cx (hdv_lt m1.1)).1
          have x2 := (o2.cx (hdv_lt m2.1)).1
          have hcl9 : ∀ s, (s = s0 ∨ s = s1 ∨ s = s2) → phi A sg s = s0 ∨ phi A sg s = s1 ∨ phi A sg s = s2 := fun s hs9 => by
            have hms : s < 2 * A.flatten.length ∧ M s = nI f := by
              rcases hs9 with e | e | e <;> rw [e] <;> assumption
            have hp := (w2 f (by omega) s hms.1).mp hms.2
            have := (memf (phi A sg s)).mpr ⟨phi_lt hd hms.1, hp⟩
            simpa using this
          have face9 : ∀ A' sg', (∃ s, M s = nI f ∧ O4s A sg s A' sg') ↔ t4P A s0 s1 s2 A' ∧ sg' = sg := fun A' sg' => t4_face hd ⟨m0.1, m1.1, m2.1⟩ hnd memf hcl9 (fun Lb hLb => ⟨orb9 Lb hLb f (by omega) s0 s1 m0.1 m1.1 m0.2 m1.2, orb9 Lb hLb f (by omega) s0 s2 m0.1 m2.1 m0.2 m2.2⟩)
          have c8' : (∀ A', ¬ t4P A s0 s1 s2 A') → Tt (fun K i => q_X13_threeChange K i 8 (nI f) 0 0 0 0 n 0 0 0 y) Q := fun hno => c8 y hf ⟨L2, by omega, S1, adS_eq hS1 (fun A' sg' => O4L_n (fun A2 sg2 h7 => hno A2 ((face9 A2 sg2).mp h7).1)), ho⟩
          refine u_X13_threeChange_2 ?_; unfold qm_X13_threeChange_2
          refine w_rdF o2.1.V ?_
          rw [rn_mul2]
          refine w_leT (by omega) (by omega) (w_if (fun hx0 => c8' (fun A' h7 => by
            rcases hx4 with ⟨-, h6⟩ | ⟨h6, -⟩
            · rcases h7.2.1 with h5 | h5 | h5
              · exact h6 s0 (by simp) h5
              · exact h6 s1 (by simp) h5
              · exact h6 s2 (by simp) h5
            · rw [h6] at hx0
              exact absurd hx0 (by decide))) (fun hx0 => w_rdI ml34 nI_0.symm (by omega) g0.2 (w_rdI ml34 (show (1 : Int32) = nI 1 from rfl) (by omega) g1.2 (w_eqN (by omega) (by omega) (fun e => c8' (fun A' h7 => h7.1.1 e)) (fun c01 => w_rdI ml34 nI_0.symm (by omega) g0.2 (w_rdI ml34 (show (2 : Int32) = nI 2 from rfl) (by omega) g2.2 (w_eqN (by omega) (by omega) (fun e => c8' (fun A' h7 => h7.1.2.1 e)) (fun c02 => w_rdI ml34 (show (1 : Int32) = nI 1 from rfl) (by omega) g1.2 (w_rdI ml34 (show (2 : Int32) = nI 2 from rfl) (by omega) g2.2 (w_eqN (by omega) (by omega) (fun e => c8' (fun A' h7 => h7.1.2.2 e)) (fun c12 => w_cs0 (tn_copy pn3 hn (fun e => hn3 e.symm) (by omega) (by omega) o2.1.1) (fun y1 hy1 => ?_)))))))))))) 
          obtain ⟨q1, q2, q3⟩ := hy1
          have tp9 := tri_pairs (sg := sg) hd ⟨m0.1, m1.1, m2.1⟩ hnd hcl9 c01 c02 c12
          have hP9 : t4P A s0 s1 s2 (t4A A s0 s1 s2) := by
            refine ⟨⟨c01, c02, c12⟩, ?_, rfl⟩
            rcases hx4 with ⟨h6, -⟩ | ⟨-, t, h5, h6⟩
            · exact absurd h6 hx0
            · rcases (show t = s0 ∨ t = s1 ∨ t = s2 by simpa using h5) with e | e | e <;> rw [e] at h6
              · exact Or.inl h6
              · exact Or.inr (Or.inl h6)
              · exact Or.inr (Or.inr h6)
          clear c01 c02 c12 hnd nd memf hcl9 c8'
          obtain ⟨d0, d1, d2, e01, e12, e20⟩ := tp9
          have n0 := rn_nx_lt (A := A) (v := s0 / 2) (by omega)
          have n1 := rn_nx_lt (A := A) (v := s1 / 2) (by omega)
          have n2 := rn_nx_lt (A := A) (v := s2 / 2) (by omega)
          obtain ⟨sw1, sw2'⟩ := sw_three (v0 := s0 / 2) (w0 := rn_nx A (s0 / 2)) (v1 := s1 / 2) (w1 := rn_nx A (s1 / 2)) (v2 := s2 / 2) (w2 := rn_nx A (s2 / 2)) (V := A.flatten.length) ⟨by omega, n0, by omega, n1, by omega, n2⟩ e01 e12 e20
          have fr1 : fr frC z0 y1 := fr_tr hf (fr_mono (fun g hg => Or.inr (by omega)) q2)
          have o1 : rn_lk y1 n A := (oY fr1).1
          have gv : ∀ v, v < A.flatten.length → y1.2.1 3004 v = nI (vAt A v).1 ∧ y1.2.1 3005 v = nI (vAt A v).2 := fun v hv => q1.2.2.2 v _ (by rw [List.append_nil]; exact vAt_of hv)
          have e33 : ∀ {y2 : ow_MS}, fr (fun g => 3004 ≤ g ∧ g ≤ 3005) y1 y2 → y2.2.1 33 = y.2.1 33 := fun hfy => by rw [(hfy 33 (by omega)).2.1, (q2 33 (by omega)).2.1]
          rw [hfl]
          show Tt (fun K i9 => q_X13_threeChange K i9 7 (nI f) (nI 3) x4 (nI 0) 0 n 0 0 0 y1) Q
          refine tri_step (i := 0) (s := s0) (G := fun v => vAt A v) hn hn3 hl (by omega) m0.1 (by rw [e33 fr_rf]; exact g0.1) d0 rfl rfl o1 fr_rf gv (fun y2 fy2 hy2 => ?_)
          refine tri_step (i := 1) (s := s1) (G := fun v => vAt A (sw2 (s0 / 2) (rn_nx A (s0 / 2)) v)) hn hn3 hl (by omega) m1.1 (by rw [e33 fy2]; exact g1.1) d1 ?_ ?_ o1 fy2 hy2 (fun y3 fy3 hy3 => ?_)
          · show vAt A (sw2 _ _ _) = _
            rw [sw2_ne e01 (Or.inl rfl)]
          · show vAt A (sw2 _ _ _) = _
            rw [sw2_ne e01 (Or.inr rfl)]
          · refine tri_step (i := 2) (s := s2) (G := fun v => vAt A (sw2 (s0 / 2) (rn_nx A (s0 / 2)) (sw2 (s1 / 2) (rn_nx A (s1 / 2)) v))) hn hn3 hl (by omega) m2.1 (by rw [e33 fy3]; exact g2.1) d2 ?_ ?_ o1 fy3 hy3 (fun y4 fy4 hy4 => ?_)
            · show vAt A (sw2 _ _ (sw2 _ _ _)) = _
              rw [sw2_ne e12 (Or.inl rfl), sw2_ne (dj4_sy e20) (Or.inl rfl)]
            · show vAt A (sw2 _ _ (sw2 _ _ _)) = _
              rw [sw2_ne e12 (Or.inr rfl), sw2_ne (dj4_sy e20) (Or.inr rfl)]
            · have fr4 : fr frC z0 y4 := fr_tr fr1 (fr_mono (fun g hg => Or.inr (by omega)) fy4)
              have hA4 : rn_At y4 3000 (rsh A (fun v => vAt A (sw2 (s0 / 2) (rn_nx A (s0 / 2)) (sw2 (s1 / 2) (rn_nx A (s1 / 2)) (sw2 (s2 / 2) (rn_nx A (s2 / 2)) v)))) A.length) [] := At_rsh q1 (fy4 3001 (by omega)).1 (fy4 3002 (by omega)).1 (fy4 3003 (by omega)).2.1 hy4
              have hlF : (rsh A (fun v => vAt A (sw2 (s0 / 2) (rn_nx A (s0 / 2)) (sw2 (s1 / 2) (rn_nx A (s1 / 2)) (sw2 (s2 / 2) (rn_nx A (s2 / 2)) v)))) A.length).flatten = (List.range A.flatten.length).map (fun v => vAt A (sw2 (s0 / 2) (rn_nx A (s0 / 2)) (sw2 (s1 / 2) (rn_nx A (s1 / 2)) (sw2 (s2 / 2) (rn_nx A (s2 / 2)) v)))) := by
                rw [rsh_fl _ (Nat.le_refl _), rn_b_len]
              have hsg4 : rn_sg y4 3000 (t4A A s0 s1 s2).flatten sg := by
                intro p hp
                have hp : p ∈ (rsh A (fun v => vAt A (sw2 (s0 / 2) (rn_nx A (s0 / 2)) (sw2 (s1 / 2) (rn_nx A (s1 / 2)) (sw2 (s2 / 2) (rn_nx A (s2 / 2)) v)))) A.length).flatten := hp
                rw [hlF] at hp
                obtain ⟨v, hv, e⟩ := List.mem_map.mp hp
                have hvl := sw1 v (List.mem_range.mp hv)
                rw [← e]
                obtain ⟨k1, k2, k3⟩ := o2.cx hvl
                show y4.2.1 3006 (crs A _) = _
                rw [(fy4 3006 (by omega)).2.1, show y1.2.1 3006 (crs A _) = y.2.1 (n + 6) (crs A _) from q3 _ (by omega)]
                exact k3
              have hlen4 : (t4A A s0 s1 s2).flatten.length ≤ 24 := by
                have : (t4A A s0 s1 s2).flatten = _ := hlF
                rw [this, List.length_map, List.length_range]
                exact hl
              have hcn4 : (t4A A s0 s1 s2).length ≤ 6 := by
                unfold t4A rsh
                rw [List.length_map, List.length_range]
                exact hC
              have ho4 : Φ y4 S1 L2 := hΦ.1 _ _ _ _ _ fy4 (fun g hg => by omega) (hΦ.1 _ _ _ _ _ q2 (fun g hg => by omega) ho)
              refine u_X13_threeChange_7 ?_; unfold qm_X13_threeChange_7
              refine w_leT (a := 3) (by omega) (by omega) (w_cs0 (hΦ.2.1 y4 S1 L2 (t4A A s0 s1 s2) sg (by omega) ho4 hA4 hsg4 (wkF_sw hO.wk sw1 sw2') hlen4 hcn4) (fun y5 ⟨⟨S3, k1, k3⟩, k2⟩ => c8 y5 (fr_tr fr4 (fr_mono (fun g hg => by unfold frO at hg; unfold frC; omega) k2)) ⟨L2 + 1, by omega, S3, adS_eq (adS_tr hS1 k1) (fun A' sg' => by
                rw [← O4L_s, face9 A' sg']
                exact ⟨fun h7 => h7.imp id (fun ⟨e1, e2⟩ => ⟨by rw [e1]; exact hP9, e2⟩), fun h7 => h7.imp id (fun ⟨e1, e2⟩ => ⟨e1.2.2, e2⟩)⟩), k3⟩))
        | succ k ihc =>
          intro s x4 y hs hf ho hx4 hcol
          have o2 := oY hf
          have hsl : s < 2 * A.flatten.length := by omega
          have e14 : y.2.1 (n + 14) s = M s := by rw [(hf (n + 14) (by unfold frC; omega)).2.1, hM]
          have hhl := hdv_lt hsl
          have hnl := rn_nx_lt (A := A) (v := s / 2) (by omega)
          have c6 : ∀ (y2 : ow_MS) (x9 : Int32), fr frC z0 y2 → Φ y2 S1 L2 → (x9 = 0 ∧ (∀ t, t ∈ fl M f (s + 1) → ¬ t4o A t) ∨ x9 = 1 ∧ ∃ t, t ∈ fl M f (s + 1) ∧ t4o A t) → (∀ i t, (fl M f (s + 1))[i]? = some t → y2.2.1 33 i = nI (t / 2) ∧ y2.2.1 34 i = nI (crs A (hdv A t))) → Tt (fun K i => q_X13_threeChange K i 6 (nI f) (nI (fl M f (s + 1)).length) x9 (nI s) 0 n 0 0 0 y2) Q := by
            intro y2 x9 hf2 ho2 hx9 hcol2
            refine u_X13_threeChange_6 ?_; unfold qm_X13_threeChange_6
            rw [nI_1]
            exact ihc (s + 1) x9 y2 (by omega) hf2 ho2 hx9 hcol2
          refine u_X13_threeChange_2 ?_; unfold qm_X13_threeChange_2
          refine w_rdF o2.1.V ?_
          rw [rn_mul2]
          refine w_leF (by omega) (by omega) (w_rdI (pl14 hn) rfl (by omega) e14 (w_if (fun hMs => ?_) (fun hMs => ?_)))
          · have hfs : fl M f (s + 1) = fl M f s ++ [s] := by rw [fl_s, if_pos hMs]
            have hk3 : (fl M f s).length < 3 := by
              have h9 := cE_mono (M := M) (x := nI f) (a := s + 1) (b := 2 * A.flatten.length) (by omega)
              rw [← fl_len, ← fl_len, hfs, List.length_append] at h9
              have : (fl M f s).length + 1 ≤ (fl M f (2 * A.flatten.length)).length := h9
              omega
            rw [rn_shr1 (by omega)]
            refine w_wrI ml33 rfl hk3 ?_
            have f33 : fr (fun g => g = 33) y (usI y 33 (fl M f s).length (nI (s / 2))) := fr_I rfl
            have o3 := oNet_fr f33 (fun g hg => by omega) o2
            have c3 : Tt (fun K i => q_X13_threeChange K i 3 (nI f) (nI (fl M f s).length) x4 (nI s) (nI (s / 2)) n (nI (hdv A s)) 0 (nI (fl M f s).length) (usI y 33 (fl M f s).length (nI (s / 2)))) Q := by
              have f34 : fr (fun g => g = 33 ∨ g = 34) y (usI (usI y 33 (fl M f s).length (nI (s / 2))) 34 (fl M f s).length (nI (crs A (hdv A s)))) := fr_I2 (fr_I (Or.inl rfl)) (Or.inr rfl)
              have o4 := oNet_fr f34 (fun g hg => by omega) o2
              have c5 : ∀ (t0 t1 : Int32), ((t1 ||| t0) = 0 ∧ (∀ t, t ∈ fl M f (s + 1) → ¬ t4o A t) ∨ (t1 ||| t0) = 1 ∧ ∃ t, t ∈ fl M f (s + 1) ∧ t4o A t) → Tt (fun K i => q_X13_threeChange K i 5 (nI f) (nI (fl M f s).length) x4 (nI s) (nI (s / 2)) n t0 t1 0 (usI (usI y 33 (fl M f s).length (nI (s / 2))) 34 (fl M f s).length (nI (crs A (hdv A s))))) Q := by
                intro t0 t1 hx9
                have := c6 (usI (usI y 33 (fl M f s).length (nI (s / 2))) 34 (fl M f s).length (nI (crs A (hdv A s)))) (t1 ||| t0) (fr_tr hf (fr_mono (fun g hg => Or.inl (by omega)) f34)) (hΦ.1 _ _ _ _ _ f34 (fun g hg => by omega) ho) hx9 (by
                  rw [hfs]
                  intro i t hi
                  by_cases hil : i < (fl M f s).length
                  · rw [List.getElem?_append_left hil] at hi
                    obtain ⟨k1, k2⟩ := hcol i t hi
                    exact ⟨rd_ot (by decide) (rd_ne (by omega) k1), rd_ne (by omega) (rd_ot (by decide) k2)⟩
                  · have hie : i = (fl M f s).length := by
                      have := (List.getElem?_eq_some_iff.mp hi).1
                      rw [List.length_append] at this
                      have : i < (fl M f s).length + 1 := this
                      omega
                    subst hie
                    rw [List.getElem?_append_right (Nat.le_refl _), Nat.sub_self] at hi
                    cases hi
                    exact ⟨rd_ot (by decide) po_usI_at, po_usI_at⟩)
                rw [hfs, List.length_append] at this
                refine u_X13_threeChange_5 ?_; unfold qm_X13_threeChange_5
                rw [nI_1]
                exact this
              have c4 : ¬ t4o A s → Tt (fun K i => q_X13_threeChange K i 4 (nI f) (nI (fl M f s).length) x4 (nI s) (nI (s / 2)) n x4 0 0 (usI (usI y 33 (fl M f s).length (nI (s / 2))) 34 (fl M f s).length (nI (crs A (hdv A s))))) Q := by
                intro hno
                refine u_X13_threeChange_4 ?_; unfold qm_X13_threeChange_4
                refine c5 _ _ ?_
                rw [hfs]
                rcases hx4 with ⟨h6, h7⟩ | ⟨h6, t, h7, h8⟩
                · refine Or.inl ⟨by rw [h6]; rfl, fun t ht => ?_⟩
                  rcases List.mem_append.mp ht with h9 | h9
                  · exact h7 t h9
                  · rw [List.mem_singleton.mp h9]
                    exact hno
                · exact Or.inr ⟨by rw [h6]; rfl, t, List.mem_append_left _ h7, h8⟩
              have c5' : t4o A s → Tt (fun K i => q_X13_threeChange K i 5 (nI f) (nI (fl M f s).length) x4 (nI s) (nI (s / 2)) n 1 x4 0 (usI (usI y 33 (fl M f s).length (nI (s / 2))) 34 (fl M f s).length (nI (crs A (hdv A s))))) Q := by
                intro hyes
                refine c5 _ _ (Or.inr ⟨?_, s, by rw [hfs]; exact List.mem_append_right _ (List.mem_singleton.mpr rfl), hyes⟩)
                rcases hx4 with ⟨h6, -⟩ | ⟨h6, -⟩ <;> rw [h6] <;> rfl
              have u1 := (lk_cu o4.1 (i := s / 2) (by omega)).2
              have u2 := (lk_cu o4.1 (i := rn_nx A (s / 2)) hnl).2
              have ul1 : uns A (s / 2) < 2 := (hd.1.2 (s / 2) _ (vAt_of (by omega))).2
              have ul2 : uns A (rn_nx A (s / 2)) < 2 := (hd.1.2 (rn_nx A (s / 2)) _ (vAt_of hnl)).2
              refine u_X13_threeChange_3 ?_; unfold qm_X13_threeChange_3
              exact w_rdI (pl4 hn) rfl (by omega) (lk_cu o3.1 hhl).1 (w_wrI ml34 rfl hk3 (w_rdI (pl5 hn) rfl (by omega) u1 (w_eqN (b := 0) (by omega) (by omega) (fun a1 => w_rdI (pl9 hn) rfl (by omega) (lk_n o4.1 (by omega)) (w_rdI (pl5 hn) rfl (by omega) u2 (w_eqN (b := 0) (by omega) (by omega) (fun a2 => c5' ⟨a1, a2⟩) (fun a2 => c4 (fun h7 => a2 h7.2))))) (fun a1 => c4 (fun h7 => a1 h7.1)))))
            rw [rn_and1 (by omega)]
            refine w_eqN (b := 0) (by omega) (by omega) (fun h9 => w_rdI (pl9 hn) rfl (by omega) (lk_n o3.1 (by omega)) ?_) (fun h9 => ?_)
            · unfold hdv at c3
              rw [if_pos h9] at c3
              exact c3
            · unfold hdv at c3
              rw [if_neg h9] at c3
              exact c3
          · have hfs : fl M f (s + 1) = fl M f s := by rw [fl_s, if_neg hMs, List.append_nil]
            have := c6 y x4 hf ho (by rw [hfs]; exact hx4) (by rw [hfs]; exact hcol)
            rw [hfs] at this
            exact this
      exact col _ 0 0 y (Nat.zero_add _) hf ho (Or.inl ⟨rfl, fun t ht => by simp [fl] at ht⟩) (fun i t hi => by simp [fl] at hi)
  exact out F 0 z0 (by omega) fr_rf ⟨0, Nat.le_refl _, S, adS_eq adS_rf (fun A' sg' => ⟨fun h9 => h9.elim, fun ⟨s, f', h1, _⟩ => by omega⟩), h0⟩
end XK4b
end
section
/-! 99zzzzzzzzzzzd.xtry -/
/-! exact: what a kind of moves offers, of the reference -/
def OM (A : rn_L) (sg : Nat → Bool) (c kd : Nat) (A' : rn_L) (sg' : Nat → Bool) : Prop := match kd with
  | 0 => O0 A sg A.flatten.length A' sg'
  | 1 => c + 1 ≤ 12 ∧ O1 A sg c A' sg'
  | 2 => O2 A sg A.flatten.length A' sg'
  | 3 => c + 2 ≤ 12 ∧ O3 A sg c A' sg'
  | _ => O4 A sg A' sg'
section XTRY
variable {Φ : ow_MS → (List Nat → Prop) → Nat → Prop} {n c kd : Nat} {z : ow_MS} {A : rn_L} {sg : Nat → Bool} {S : List Nat → Prop}
theorem xr_try (hΦ : snkF Φ) (hn : mw_net n) (hn3 : n ≠ 3000) (hok : okF A.flatten c) (hk : kd < 5) (hO : oNet z n A sg) (h : Φ z S 0) : Te (fun K => qe_X13_tryMoves K n (nI kd) z) (fun z1 => (∃ S', adS S S' (OM A sg c kd) ∧ Φ z1 S' 2700) ∧ fr (frT n) z z1) := by
  have hl := hO.len
  have hC := hO.2.2.2
  have hVc := okF_len hok
  have frc : ∀ {y : ow_MS}, fr frC z y → fr (frT n) z y := fun hf => fr_mono (fun g hg => by unfold frC at hg; unfold frT; omega) hf
  have dv : nI A.flatten.length / 2 = nI c := by
    rw [show nI A.flatten.length / 2 = nI (A.flatten.length / 2) from pk_div (d := 2) (by omega) (by omega) (by omega)]
    congr 1
    omega
  have none : ∀ {P : Prop} {O : rn_L → (Nat → Bool) → Prop}, ¬ P → adS S S (fun A' sg' => P ∧ O A' sg') := fun hP => adS_eq adS_rf (fun A' sg' => ⟨fun h9 => h9.elim, fun h9 => absurd h9.1 hP⟩)
  have some9 : ∀ {P : Prop} {S' : List Nat → Prop} {O : rn_L → (Nat → Bool) → Prop}, P → adS S S' O → adS S S' (fun A' sg' => P ∧ O A' sg') := fun hP h8 => adS_eq h8 (fun A' sg' => ⟨fun h9 => ⟨hP, h9⟩, fun h9 => h9.2⟩)
  match kd, hk with
  | 0, _ => exact w_monoE (xr_k0 hΦ hn hn3 (by omega) hO h) (fun z1 ⟨⟨S', h1, h2⟩, h3⟩ => ⟨⟨S', h1, hΦ.2.2 _ _ _ _ (by omega) h2⟩, frc h3⟩)
  | 1, _ =>
    refine e_X13_tryMoves ?_
    refine u_X13_tryMoves_0 ?_; unfold qm_X13_tryMoves_0
    refine w_ifF (by decide) (w_ifF (by decide) (w_ifT rfl (w_rdF hO.1.V (w_nzI (by decide) ?_))))
    rw [dv, nI_1]
    exact w_lt (a := 12) (by omega) (by omega) (fun h9 => w_some ⟨⟨S, none (by omega), hΦ.2.2 _ _ _ _ (by omega) h⟩, fr_rf⟩) (fun h9 => w_cs0 (xr_oneComes (L := 0) hΦ hn hn3 hok (by omega) (by omega) hO h) (fun y ⟨⟨S', q0, q1⟩, q2⟩ => w_some ⟨⟨S', some9 (by omega) q0, hΦ.2.2 _ _ _ _ (by omega) q1⟩, fr_mono (fun g hg => by unfold frB at hg; unfold frT; omega) q2⟩))
  | 2, _ =>
    refine e_X13_tryMoves ?_
    refine u_X13_tryMoves_0 ?_; unfold qm_X13_tryMoves_0
    exact w_ifF (by decide) (w_ifF (by decide) (w_ifF (by decide) (w_ifT rfl (w_cs0 (xr_twoGo (L := 0) hΦ hn hn3 (by omega) hO h) (fun y ⟨⟨S', q0, q1⟩, q2⟩ => w_some ⟨⟨S', q0, hΦ.2.2 _ _ _ _ (by omega) q1⟩, frc q2⟩)))))
  | 3, _ =>
    refine e_X13_tryMoves ?_
    refine u_X13_tryMoves_0 ?_; unfold qm_X13_tryMoves_0
    refine w_ifF (by decide) (w_ifF (by decide) (w_ifF (by decide) (w_ifF (by decide) (w_ifT rfl (w_rdF hO.1.V (w_nzI (by decide) ?_))))))
    rw [dv, show nI c + 2 = nI (c + 2) from nI_add c 2]
    exact w_lt (a := 12) (by omega) (by omega) (fun h9 => w_some ⟨⟨S, none (by omega), hΦ.2.2 _ _ _ _ (by omega) h⟩, fr_rf⟩) (fun h9 => w_cs0 (xr_twoCome hΦ hn hn3 hok (by omega) hO h) (fun y ⟨⟨S', q0, q1⟩, q2⟩ => w_some ⟨⟨S', some9 (by omega) q0, q1⟩, frc q2⟩))
  | 4, _ =>
    refine e_X13_tryMoves ?_
    refine u_X13_tryMoves_0 ?_; unfold qm_X13_tryMoves_0
    exact w_ifT (by decide) (w_cs0 (xr_three hΦ hn hn3 hO h) (fun y ⟨⟨S', q0, q1⟩, q2⟩ => w_some ⟨⟨S', q0, q1⟩, q2⟩))
end XTRY
end
section
/-! 99zzzzzzzzzzze.xp0 -/
/-! the moves of both sides: kinds 0 and 2 -/
/-- what a kind of moves makes on both sides, by nets -/
def mBi (kd : Nat) (A : rn_L) (sg : Nat → Bool) (R : ow_NT) : Prop := (∀ j, j < mv_cnt R.1 kd → (∃ (F P : Nat → Int32) (Q : ow_NT), mv_mk kd R F P ∧ ow_b24 Q.2.2.1 ∧ mv_B kd j Q R F P = true) → ∃ A' sg', OM A sg R.1 kd A' sg' ∧ ∀ (F P : Nat → Int32) (Q : ow_NT), mv_mk kd R F P → ow_b24 Q.2.2.1 → mv_B kd j Q R F P = true ∧ ∃ f, isoV A' sg' f (mv_T kd j Q R F P)) ∧ ∀ A' sg', OM A sg R.1 kd A' sg' → ∃ j, j < mv_cnt R.1 kd ∧ ∀ (F P : Nat → Int32) (Q : ow_NT), mv_mk kd R F P → ow_b24 Q.2.2.1 → mv_B kd j Q R F P = true ∧ ∃ f, isoV A' sg' f (mv_T kd j Q R F P)
def idN (x : Nat) : Nat := x
theorem woA_wox {A : rn_L} {x : Nat} (hu : ∀ p, p ∈ A.flatten → p.2 < 2) (y : Nat) : woA x y A = wox (wox A x) y := by
  unfold woA wox rmv
  rw [List.map_map, List.map_map, List.map_map]
  refine List.map_congr_left (fun L hL => ?_)
  show _ = List.filter _ (List.filter _ (List.filter _ (List.filter _ L)))
  rw [List.filter_filter, List.filter_filter, List.filter_filter]
  refine List.filter_congr (fun p hp => ?_)
  have h2 := hu p (List.mem_flatten.mpr ⟨L, hL, hp⟩)
  have key : ∀ t : Nat, (p.1 ≠ t) ↔ (p ≠ (t, 1) ∧ p ≠ (t, 0)) := by
    intro t
    constructor
    · intro h9
      exact ⟨fun e => h9 (by rw [e]), fun e => h9 (by rw [e])⟩
    · rintro ⟨g1, g2⟩ e
      have : p.2 = 0 ∨ p.2 = 1 := by omega
      rcases this with e2 | e2
      · exact g2 (Prod.ext e e2)
      · exact g1 (Prod.ext e e2)
  rw [Bool.eq_iff_iff]
  simp only [Bool.and_eq_true, decide_eq_true_iff, key, and_assoc, and_comm, and_left_comm]
theorem wox_no {A : rn_L} {x : Nat} (h : ∀ p, p ∈ A.flatten → p.1 ≠ x) : wox A x = A := by
  unfold wox rmv
  rw [List.map_map]
  refine (List.map_congr_left (fun L hL => ?_)).trans (List.map_id _)
  show List.filter _ (List.filter _ L) = L
  have hL9 : ∀ u, (x, u) ∉ L := fun u h9 => h _ (List.mem_flatten.mpr ⟨L, hL, h9⟩) rfl
  rw [fil_n (hL9 0), fil_n (hL9 1)]
theorem woA_sy {A : rn_L} {x y : Nat} : woA x y A = woA y x A := by
  unfold woA
  refine List.map_congr_left (fun L hL => List.filter_congr (fun p hp => Bool.and_comm _ _))
section XP0
variable {A : rn_L} {sg : Nat → Bool} {R Q : ow_NT}
theorem isoV_cpy {f : Nat → Nat} (h : isoV A sg f R) : isoV A sg f (nt_copy Q R) := by
  have key : ∀ {β : Type} (f g : Nat → β) (n k : Nat), k < n → va_cpy f g 0 0 n k = f k := fun f g n k hk => by
    rw [pk_cpy_in (Nat.zero_le k) (by omega), Nat.zero_add, Nat.sub_zero]
  exact isoV_cg h rfl rfl (fun k hk => ⟨key _ _ _ _ hk, key _ _ _ _ hk⟩) (fun x hx => key _ _ _ _ hx)
/-- a visit by its crossing -/
theorem vis_of (h : isoV A sg idN R) {x u : Nat} (hx : x < R.1) (hu : u < 2) : ∃ v, v < A.flatten.length ∧ crs A v = x ∧ uns A v = u ∧ lbv A idN v = 2 * x + u := by
  obtain ⟨v, hv, e⟩ := lbv_sur (isoS_iff.mp h.1) (k := 2 * x + u) (by omega)
  obtain ⟨e1, e2⟩ := lbv_hf (isoS_iff.mp h.1) hv
  have e1 : lbv A idN v / 2 = crs A v := e1
  exact ⟨v, hv, by omega, by omega, e⟩
theorem lb_un (h : isoV A sg idN R) {v : Nat} (hv : v < A.flatten.length) : lbv A idN v = 2 * crs A v + uns A v ∧ uns A v < 2 ∧ crs A v < R.1 ∧ R.2.2.1.1 (lbv A idN v) = lbv A idN (rn_nx A v) ∧ lbv A idN (mtf A v) = mt (lbv A idN v) := by
  have hi := isoS_iff.mp h.1
  obtain ⟨e1, e2⟩ := lbv_hf hi hv
  have h9 := lbv_lt hi hv
  have e1 : lbv A idN v / 2 = crs A v := e1
  exact ⟨rfl, by omega, by omega, hi.2.2.2.2.2.1 v hv, (lbv_mt hi hv).2.2.1⟩
theorem mb_0 (h : isoV A sg idN R) : mBi 0 A sg R := by
  have hi := isoS_iff.mp h.1
  have hd := wkF_ok h.1.1
  have hu : ∀ p, p ∈ A.flatten → p.2 < 2 := fun p hp => (h.1.1.2 p hp).2.1
  have one : ∀ {x : Nat} {Q : ow_NT}, x < R.1 → ∃ f, isoV (woA x x A) sg f (nt_rm (nt_copy Q R) x) := by
    intro x Q hx
    obtain ⟨v, hv, e1, e2, e3⟩ := vis_of h hx (u := 0) (by omega)
    have hm := vAt_mem hv
    have e9 : vAt A v = (x, 0) := Prod.ext e1 e2
    rw [e9] at hm
    obtain ⟨f', k1, -⟩ := iso_rm (isoV_cpy (Q := Q) h) hm
    refine ⟨f', ?_⟩
    rw [woA_wox hu x, wox_no (fun p hp => ((wox_mem hu).mp hp).2)]
    exact k1
  constructor
  · rintro j hj ⟨F, P, Q, hmk, hQ, hB⟩
    have hj : j < R.1 := hj
    have hB : mv_bs R.2.2.1.1 (2 * j) (2 * j + 1) = true := hB
    have hB9 := hB
    refine ⟨woA j j A, sg, ⟨rfl, ?_⟩, fun F' P' Q' _ _ => ⟨hB9, ?_⟩⟩
    · have main : ∀ u, u < 2 → R.2.2.1.1 (2 * j + u) = mt (2 * j + u) → ∃ v, v < A.flatten.length ∧ rn_nx A v = mtf A v ∧ woA j j A = woA (crs A v) (crs A v) A := by
        intro u hu2 e
        obtain ⟨v, hv, e1, e2, e3⟩ := vis_of h hj hu2
        obtain ⟨-, -, -, q4, q5⟩ := lb_un h hv
        refine ⟨v, hv, ?_, by rw [e1]⟩
        refine lbv_inj hi (rn_nx_lt hv) (mtf_lt hd hv) ?_
        show lbv A idN _ = lbv A idN _
        rw [← q4, q5, e3, e]
      unfold mv_bs at hB
      rw [Bool.or_eq_true, decide_eq_true_iff, decide_eq_true_iff] at hB
      rcases hB with hB | hB
      · refine main 0 (by omega) ?_
        rw [Nat.add_zero, hB]
        unfold mt
        rw [if_pos (by omega)]
      · refine main 1 (by omega) ?_
        rw [hB]
        unfold mt
        rw [if_neg (by omega)]
        omega
    · show ∃ f, isoV _ _ f (mv_t0 Q' R j)
      unfold mv_t0
      rw [if_pos hB9]
      exact one hj
  · rintro A' sg' ⟨rfl, v, hv, e, rfl⟩
    obtain ⟨q1, q2, q3, q4, q5⟩ := lb_un h hv
    refine ⟨crs A v, q3, fun F P Q hmk hQ => ?_⟩
    have hB : mv_bs R.2.2.1.1 (2 * crs A v) (2 * crs A v + 1) = true := by
      unfold mv_bs
      rw [Bool.or_eq_true, decide_eq_true_iff, decide_eq_true_iff]
      rw [e, q5, q1] at q4
      unfold mt at q4
      rcases (show uns A v = 0 ∨ uns A v = 1 by omega) with e2 | e2 <;> rw [e2] at q4
      · rw [if_pos (by omega)] at q4
        exact Or.inl q4
      · rw [if_neg (by omega)] at q4
        exact Or.inr q4
    refine ⟨hB, ?_⟩
    obtain ⟨f, hf⟩ := one (Q := Q) q3
    refine ⟨f, ?_⟩
    show isoV _ _ _ (mv_t0 Q R (crs A v))
    unfold mv_t0
    rw [if_pos hB]
    exact hf
theorem mb_2 (h : isoV A sg idN R) (hp : pm1 R) : mBi 2 A sg R := by
  have hi := isoS_iff.mp h.1
  have hd := wkF_ok h.1.1
  have hu : ∀ p, p ∈ A.flatten → p.2 < 2 := fun p hp => (h.1.1.2 p hp).2.1
  have xm : ∀ {x : Nat}, x < R.1 → (x, 0) ∈ A.flatten := by
    intro x hx
    obtain ⟨v, hv, e1, e2, e3⟩ := vis_of h hx (u := 0) (by omega)
    have hm := vAt_mem hv
    rw [show vAt A v = (x, 0) from Prod.ext e1 e2] at hm
    exact hm
  have sgG : ∀ {x : Nat}, x < R.1 → R.2.2.2 x = if sg x then -1 else 1 := fun hx => iso_sg1 h hp (xm hx)
  have sgN9 : ∀ {x y : Nat}, x < R.1 → y < R.1 → (R.2.2.2 x ≠ R.2.2.2 y ↔ sg x ≠ sg y) := by
    intro x y hx hy
    rw [sgG hx, sgG hy]
    cases sg x <;> cases sg y <;> simp
  have two : ∀ {x y : Nat} {Q : ow_NT}, x < R.1 → y < x → ∃ f, isoV (woA x y A) sg f (nt_rm (nt_rm (nt_copy Q R) x) y) := by
    intro x y Q hx hy
    obtain ⟨f', k1, k2⟩ := iso_rm (isoV_cpy (Q := Q) h) (xm hx)
    have k3 := k2 y
    have k3 : f' y = if y = R.1 - 1 then x else y := k3
    rw [if_neg (by omega)] at k3
    obtain ⟨f2, j1, -⟩ := iso_rm k1 (x0 := y) ((wox_mem hu).mpr ⟨xm (by omega), show y ≠ x by omega⟩)
    rw [k3] at j1
    refine ⟨f2, ?_⟩
    rw [woA_wox hu y]
    exact j1
  have bs9 : ∀ {x y u : Nat}, x < R.1 → y < R.1 → u < 2 → mv_bs R.2.2.1.1 (2 * x + u) (2 * y + u) = true → ∃ v w, v < A.flatten.length ∧ w < A.flatten.length ∧ crs A v = x ∧ uns A v = u ∧ crs A w = y ∧ uns A w = u ∧ (rn_nx A v = w ∨ rn_nx A w = v) := by
    intro x y u hx hy hu2 e
    obtain ⟨v, hv, e1, e2, e3⟩ := vis_of h hx hu2
    obtain ⟨w, hw, g1, g2, g3⟩ := vis_of h hy hu2
    refine ⟨v, w, hv, hw, e1, e2, g1, g2, ?_⟩
    unfold mv_bs at e
    rw [Bool.or_eq_true, decide_eq_true_iff, decide_eq_true_iff, ← e3, ← g3] at e
    rw [(lb_un h hv).2.2.2.1, (lb_un h hw).2.2.2.1] at e
    exact e.imp (fun e => lbv_inj hi (rn_nx_lt hv) hw e) (fun e => lbv_inj hi (rn_nx_lt hw) hv e)
  have same : ∀ {v w : Nat}, v < A.flatten.length → w < A.flatten.length → crs A v = crs A w → uns A v = uns A w → v = w := fun hv hw e1 e2 => lbv_inj hi hv hw (by show lbv A idN _ = lbv A idN _; rw [(lb_un h hv).1, (lb_un h hw).1, e1, e2])
  have mtu : ∀ {v : Nat}, v < A.flatten.length → uns A v = 0 → crs A (mtf A v) = crs A v ∧ uns A (mtf A v) = 1 := by
    intro v hv e
    have h1 := lb_un h hv
    have h2 := lb_un h (mtf_lt hd hv)
    have h3 := h1.2.2.2.2
    rw [h1.1, h2.1, e] at h3
    unfold mt at h3
    rw [if_pos (by omega)] at h3
    omega
  have main9 : ∀ {x y : Nat}, x < R.1 → y < x → R.2.2.2 x ≠ R.2.2.2 y → mv_bs R.2.2.1.1 (2 * x) (2 * y) = true → mv_bs R.2.2.1.1 (2 * x + 1) (2 * y + 1) = true → ∃ v, v < A.flatten.length ∧ tw2 A sg v ∧ woA x y A = woA (crs A v) (crs A (rn_nx A v)) A := by
    intro x y hx b1 b2 b3 b4
    have b2 := (sgN9 hx (by omega)).mp b2
    obtain ⟨v, w, hv, hw, e1, e2, e3, e4, e5⟩ := bs9 (u := 0) hx (show y < R.1 by omega) (by omega) b3
    obtain ⟨v', w', hv', hw', g1, g2, g3, g4, g5⟩ := bs9 (u := 1) hx (show y < R.1 by omega) (by omega) b4
    have mv := mtu hv e2
    have mw := mtu hw e4
    have ev : mtf A v = v' := same (mtf_lt hd hv) hv' (by rw [mv.1, e1, g1]) (by rw [mv.2, g2])
    have ew : mtf A w = w' := same (mtf_lt hd hw) hw' (by rw [mw.1, e3, g3]) (by rw [mw.2, g4])
    rcases e5 with e5 | e5
    · refine ⟨v, hv, ?_, by rw [e5, e1, e3]⟩
      unfold tw2
      rw [e5, ev, ew, e1, e3]
      exact ⟨e2, e4, by omega, b2, g5⟩
    · refine ⟨w, hw, ?_, by rw [e5, e1, e3]; exact woA_sy⟩
      unfold tw2
      rw [e5, ev, ew, e1, e3]
      exact ⟨e4, e2, by omega, b2.symm, g5.symm⟩
  constructor
  · rintro j hj ⟨F, P, Q, hmk, hQ, hB⟩
    have hj : j < R.1 * R.1 := hj
    have hB : mv_b2 R (j / R.1) (j % R.1) = true := hB
    have hB9 := hB
    have hc : 0 < R.1 := by
      rcases Nat.eq_zero_or_pos R.1 with e | e
      · rw [e] at hj; omega
      · exact e
    have hx : j / R.1 < R.1 := Nat.div_lt_of_lt_mul hj
    unfold mv_b2 mv_pair at hB
    rw [Bool.and_eq_true, Bool.and_eq_true, Bool.and_eq_true, decide_eq_true_iff, decide_eq_true_iff] at hB
    obtain ⟨b1, ⟨b2, b3⟩, b4⟩ := hB
    refine ⟨woA (j / R.1) (j % R.1) A, sg, ⟨rfl, ?_⟩, fun F' P' Q' _ _ => ⟨hB9, by
      show ∃ f, isoV _ _ f (mv_t2 Q' R (j / R.1) (j % R.1))
      unfold mv_t2
      rw [if_pos hB9]
      exact two hx b1⟩⟩
    exact main9 hx b1 b2 b3 b4
  · rintro A' sg' ⟨rfl, v, hv, ⟨t1, t2, t3, t4, t5⟩, rfl⟩
    obtain ⟨w, hw9⟩ : ∃ w, w = rn_nx A v := ⟨_, rfl⟩
    have hw : w < A.flatten.length := by rw [hw9]; exact rn_nx_lt hv
    rw [← hw9] at t2 t3 t4 t5 ⊢
    have lv := lb_un h hv
    have lw := lb_un h hw
    have mv := mtu hv t1
    have mw := mtu hw t2
    have lmv := lb_un h (mtf_lt hd hv)
    have lmw := lb_un h (mtf_lt hd hw)
    have ob : R.2.2.1.1 (2 * crs A v) = 2 * crs A w := by
      have := lv.2.2.2.1
      rw [← hw9, lv.1, lw.1, t1, t2] at this
      exact this
    have ub : R.2.2.1.1 (2 * crs A v + 1) = 2 * crs A w + 1 ∨ R.2.2.1.1 (2 * crs A w + 1) = 2 * crs A v + 1 := by
      refine t5.imp (fun e => ?_) (fun e => ?_)
      · have := lmv.2.2.2.1
        rw [e, lmv.1, lmw.1, mv.1, mv.2, mw.1, mw.2] at this
        exact this
      · have := lmw.2.2.2.1
        rw [e, lmv.1, lmw.1, mv.1, mv.2, mw.1, mw.2] at this
        exact this
    have fin : ∀ x y, y < x → x < R.1 → sg' x ≠ sg' y → (R.2.2.1.1 (2 * x) = 2 * y ∨ R.2.2.1.1 (2 * y) = 2 * x) → (R.2.2.1.1 (2 * x + 1) = 2 * y + 1 ∨ R.2.2.1.1 (2 * y + 1) = 2 * x + 1) → ∃ j, j < mv_cnt R.1 2 ∧ ∀ (F P : Nat → Int32) (Q : ow_NT), mv_mk 2 R F P → ow_b24 Q.2.2.1 → mv_B 2 j Q R F P = true ∧ ∃ f, isoV (woA x y A) sg' f (mv_T 2 j Q R F P) := by
      intro x y hy hx hs o1 u1
      have d1 : (x * R.1 + y) / R.1 = x := by
        rw [Nat.mul_comm, Nat.mul_add_div (by omega), Nat.div_eq_of_lt (by omega), Nat.add_zero]
      have d2 : (x * R.1 + y) % R.1 = y := by
        rw [Nat.mul_comm, Nat.mul_add_mod, Nat.mod_eq_of_lt (by omega)]
      refine ⟨x * R.1 + y, ?_, fun F P Q hmk hQ => ?_⟩
      · show x * R.1 + y < R.1 * R.1
        have := Nat.mul_le_mul_right R.1 (show x + 1 ≤ R.1 by omega)
        rw [Nat.succ_mul] at this
        omega
      · have hB : mv_b2 R x y = true := by
          unfold mv_b2 mv_pair mv_bs
          rw [Bool.and_eq_true, Bool.and_eq_true, Bool.and_eq_true, Bool.or_eq_true, Bool.or_eq_true, decide_eq_true_iff, decide_eq_true_iff, decide_eq_true_iff, decide_eq_true_iff, decide_eq_true_iff, decide_eq_true_iff]
          exact ⟨hy, ⟨(sgN9 hx (by omega)).mpr hs, o1⟩, u1⟩
        show mv_b2 R ((x * R.1 + y) / R.1) ((x * R.1 + y) % R.1) = true ∧ ∃ f, isoV _ _ f (mv_t2 Q R ((x * R.1 + y) / R.1) ((x * R.1 + y) % R.1))
        rw [d1, d2]
        refine ⟨hB, ?_⟩
        unfold mv_t2
        rw [if_pos hB]
        exact two hx hy
    by_cases hlt : crs A v < crs A w
    · rw [woA_sy]
      exact fin (crs A w) (crs A v) hlt lw.2.2.1 t4.symm (Or.inr ob) ub.symm
    · exact fin (crs A v) (crs A w) (by omega) lv.2.2.1 t4 (Or.inl ob) ub
end XP0
end
section
/-! 99zzzzzzzzzzzf.xp4 -/
/-! the moves of both sides: kind 4 -/
def swv (p q r : vT) : vT := if r = p then q else if r = q then p else r
theorem swv_i (p q r : vT) : swv p q (swv p q r) = r := by
  unfold swv
  by_cases e1 : r = p
  · rw [if_pos e1]
    by_cases e2 : q = p
    · rw [if_pos e2, e2, e1]
    · rw [if_neg e2, if_pos rfl, e1]
  · rw [if_neg e1]
    by_cases e2 : r = q
    · rw [if_pos e2, if_pos rfl, e2]
    · rw [if_neg e2, if_neg e1, if_neg e2]
theorem swv_inj {p q a b : vT} (h : swv p q a = swv p q b) : a = b := by
  have := congrArg (swv p q) h
  rw [swv_i, swv_i] at this
  exact this
section XP4
variable {A : rn_L} {sg : Nat → Bool} {f : Nat → Nat} {T R Q : ow_NT} {p q : vT}
theorem swv_mem (hp : p ∈ A.flatten) (hq : q ∈ A.flatten) {r : vT} (hr : r ∈ A.flatten) : swv p q r ∈ A.flatten := by
  unfold swv
  repeat' split
  all_goals assumption
theorem swA_fl : (A.map (List.map (swv p q))).flatten = A.flatten.map (swv p q) := (List.map_flatten ..).symm
theorem swA_pm (hn : A.flatten.Nodup) (hp : p ∈ A.flatten) (hq : q ∈ A.flatten) : (A.map (List.map (swv p q))).flatten.Perm A.flatten := by
  rw [swA_fl]
  refine (List.perm_ext_iff_of_nodup (nodup_map hn (fun a b _ _ e => swv_inj e)) hn).mpr (fun r => ?_)
  rw [List.mem_map]
  constructor
  · rintro ⟨a, ha, rfl⟩
    exact swv_mem hp hq ha
  · intro hr
    exact ⟨swv p q r, swv_mem hp hq hr, swv_i p q r⟩
/-- two visits change places in a net and in its list -/
theorem iso_swv (h : isoV A sg f T) (hp : p ∈ A.flatten) (hq : q ∈ A.flatten) : isoV (A.map (List.map (swv p q))) sg f (nt_swap T (gl f p) (gl f q)) := by
  have hn := h.1.1.1
  have hg := gl_gin h.1
  have pm := swA_pm hn hp hq
  have hv := isoV_vn h
  have key : ∀ r, r ∈ A.flatten → np_sw (gl f r) (gl f p) (gl f q) = gl f (swv p q r) := by
    intro r hr
    unfold np_sw swv
    by_cases e1 : r = p
    · rw [if_pos (by rw [e1]), if_pos e1]
    · rw [if_neg (fun e => e1 (hg r p hr hp e)), if_neg e1]
      by_cases e2 : r = q
      · rw [if_pos (by rw [e2]), if_pos e2]
      · rw [if_neg (fun e => e2 (hg r q hr hq e)), if_neg e2]
  refine isoV_of (isoS_iff.mp ⟨wkF_perm pm h.1.1, by rw [pm.length_eq]; exact h.1.2.1, h.1.2.2.1, fun r h9 => h.1.2.2.2.1 r (pm.mem_iff.mp h9), fun r r' h8 h9 e => h.1.2.2.2.2.1 r r' (pm.mem_iff.mp h8) (pm.mem_iff.mp h9) e, fun L l1 r r1 => ?_, fun r h9 => h.1.2.2.2.2.2.2.1 r (pm.mem_iff.mp h9), by rw [cirs_map]; exact h.1.2.2.2.2.2.2.2⟩) (vD_vn.mp (vD_swap (vD_vn.mpr hv) (gl_lt h hp) (gl_lt h hq)))
  obtain ⟨L0, hL0, rfl⟩ := List.mem_map.mp l1
  obtain ⟨r0, hr0, rfl⟩ := List.mem_map.mp r1
  have hr9 : r0 ∈ A.flatten := List.mem_flatten.mpr ⟨L0, hL0, hr0⟩
  have nL := L_nd hn hL0
  have hs9 : sc L0 r0 ∈ A.flatten := List.mem_flatten.mpr ⟨L0, hL0, sc_in hr0 nL⟩
  show (np_swap T.2.2.1 (gl f p) (gl f q)).1 (gl f (swv p q r0)) = gl f (sc (L0.map (swv p q)) (swv p q r0))
  rw [np_swap_1 (D := fun k => k < 2 * T.1) (vD_vn.mpr hv) (gl_lt h hp) (gl_lt h hq) (gl_lt h (swv_mem hp hq hr9)), key _ (swv_mem hp hq hr9), swv_i, (h.2 L0 hL0 r0 hr0).1, key _ hs9, sc_map nL (fun a b _ _ e => swv_inj e) hr0]
theorem rsh_id : rsh A (vAt A) A.length = A := by
  refine List.ext_getElem? (fun i => ?_)
  unfold rsh
  rw [List.getElem?_map]
  by_cases hi : i < A.length
  · rw [List.getElem?_range hi, List.getElem?_eq_getElem hi]
    have := cmp_seg (A := A) hi
    rw [List.getD_eq_getElem?_getD, List.getElem?_eq_getElem hi] at this
    have e : List.range' (rn_b A i) (rlen A i) = seg (rn_b A i) (rn_b A (i + 1)) := by
      unfold seg rlen
      exact List.range'_eq_map_range ..
    show some ((List.range' (rn_b A i) (rlen A i)).map (vAt A)) = _
    rw [e]
    exact congrArg some this
  · rw [List.getElem?_eq_none (by rw [List.length_range]; omega), List.getElem?_eq_none (by omega)]
    rfl
theorem rsh_cg {G H : Nat → Nat × Nat} (h : ∀ v, v < A.flatten.length → G v = H v) : rsh A G A.length = rsh A H A.length := by
  unfold rsh
  refine List.map_congr_left (fun c hc => List.map_congr_left (fun v hv => h v ?_))
  have hc := List.mem_range.mp hc
  rw [List.mem_range'_1] at hv
  unfold rlen at hv
  have h1 := rn_b_mono A c
  have h2 := rnb_mono2 (A := A) (a := c + 1) (b := A.length) (by omega)
  rw [rn_b_len] at h2
  omega
theorem rsh_map (σ : vT → vT) (G : Nat → Nat × Nat) (k : Nat) : rsh A (fun v => σ (G v)) k = (rsh A G k).map (List.map σ) := by
  unfold rsh
  rw [List.map_map]
  refine List.map_congr_left (fun c hc => ?_)
  show _ = List.map σ (List.map G _)
  rw [List.map_map]
  rfl
theorem vAt_sw (hn : A.flatten.Nodup) {a b v : Nat} (ha : a < A.flatten.length) (hb : b < A.flatten.length) (hv : v < A.flatten.length) : vAt A (sw2 a b v) = swv (vAt A a) (vAt A b) (vAt A v) := by
  have inj : ∀ {x y : Nat}, x < A.flatten.length → y < A.flatten.length → vAt A x = vAt A y → x = y := fun hx hy e => nodup_at hn (vAt_of hx) (by rw [e]; exact vAt_of hy)
  unfold sw2 swv
  by_cases e1 : v = a
  · rw [if_pos e1, if_pos (by rw [e1])]
  · rw [if_neg e1, if_neg (fun e => e1 (inj hv ha e))]
    by_cases e2 : v = b
    · rw [if_pos e2, if_pos (by rw [e2])]
    · rw [if_neg e2, if_neg (fun e => e2 (inj hv hb e))]
theorem t4_swv (hn : A.flatten.Nodup) {a b c : Nat} (ha : a < 2 * A.flatten.length) (hb : b < 2 * A.flatten.length) (hc : c < 2 * A.flatten.length) : t4A A a b c = ((A.map (List.map (swv (vAt A (c / 2)) (vAt A (rn_nx A (c / 2)))))).map (List.map (swv (vAt A (b / 2)) (vAt A (rn_nx A (b / 2)))))).map (List.map (swv (vAt A (a / 2)) (vAt A (rn_nx A (a / 2))))) := by
  have na := rn_nx_lt (A := A) (v := a / 2) (by omega)
  have nb := rn_nx_lt (A := A) (v := b / 2) (by omega)
  have nc := rn_nx_lt (A := A) (v := c / 2) (by omega)
  have e9 : ∀ σ : vT → vT, A.map (List.map σ) = rsh A (fun v => σ (vAt A v)) A.length := fun σ => by rw [rsh_map, rsh_id]
  rw [e9, ← rsh_map, ← rsh_map]
  unfold t4A
  refine rsh_cg (fun v hv => ?_)
  have h1 := sw2_lt (a := c / 2) (b := rn_nx A (c / 2)) (by omega) nc hv
  have h2 := sw2_lt (a := b / 2) (b := rn_nx A (b / 2)) (by omega) nb h1
  rw [vAt_sw hn (by omega) na h2, vAt_sw hn (by omega) nb h1, vAt_sw hn (by omega) nc hv]
def psS (A : rn_L) (s : Nat) : Nat := 2 * lbv A idN (s / 2) + s % 2
theorem ps_sur (h : isoV A sg idN R) {a : Nat} (ha : a < 4 * R.1) : ∃ s, s < 2 * A.flatten.length ∧ psS A s = a := by
  obtain ⟨v, hv, e⟩ := lbv_sur (isoS_iff.mp h.1) (k := a / 2) (by omega)
  refine ⟨2 * v + a % 2, by omega, ?_⟩
  unfold psS
  rw [show (2 * v + a % 2) / 2 = v by omega, show (2 * v + a % 2) % 2 = a % 2 by omega]
  have e : lbv A idN v = a / 2 := e
  omega
theorem ps_lt (h : isoV A sg idN R) {s : Nat} (hs : s < 2 * A.flatten.length) : psS A s < 4 * R.1 := by
  have := lbv_lt (isoS_iff.mp h.1) (v := s / 2) (by omega)
  unfold psS
  omega
theorem ps_inj (h : isoV A sg idN R) {s t : Nat} (hs : s < 2 * A.flatten.length) (ht : t < 2 * A.flatten.length) (e : psS A s = psS A t) : s = t := by
  unfold psS at e
  have := lbv_inj (isoS_iff.mp h.1) (v := s / 2) (w := t / 2) (by omega) (by omega) (show lbv A idN (s / 2) = lbv A idN (t / 2) by omega)
  omega
theorem ps_end (h : isoV A sg idN R) {s : Nat} (hs : s < 2 * A.flatten.length) : fc_end R.2.2.1.1 (psS A s) = lbv A idN (hdv A s) := by
  unfold fc_end psS hdv
  rw [show (2 * lbv A idN (s / 2) + s % 2) % 2 = s % 2 by omega, show (2 * lbv A idN (s / 2) + s % 2) / 2 = lbv A idN (s / 2) by omega]
  by_cases e : s % 2 = 0
  · rw [if_pos e, if_pos e]
    exact (lb_un h (by omega)).2.2.2.1
  · rw [if_neg e, if_neg e]
theorem ps_on (h : isoV A sg idN R) (hp : pm1 R) {s : Nat} (hs : s < 2 * A.flatten.length) : fc_on R.2.2.1 R.2.2.2 (psS A s) = psS A (phi A sg s) := by
  have hi := isoS_iff.mp h.1
  have hh := hdv_lt (A := A) hs
  have hb : stG R.2.2.2 (lbv A idN (hdv A s)) = smv A sg (hdv A s) := smv_b hi hp hh
  obtain ⟨-, -, -, -, m5⟩ := lb_un h hh
  have m1 := mtf_lt (wkF_ok h.1.1) hh
  have m2 := rn_pv_lt (A := A) m1
  have e0 : fc_on R.2.2.1 R.2.2.2 (psS A s) = if (stG R.2.2.2 (fc_end R.2.2.1.1 (psS A s)) == decide (psS A s % 2 = 0)) = true then 2 * mt (fc_end R.2.2.1.1 (psS A s)) else 2 * R.2.2.1.2 (mt (fc_end R.2.2.1.1 (psS A s))) + 1 := rfl
  have e2 : psS A s % 2 = s % 2 := by unfold psS; omega
  rw [e0, ps_end h hs, hb, e2, ← m5]
  have pv : R.2.2.1.2 (lbv A idN (mtf A (hdv A s))) = lbv A idN (rn_pv A (mtf A (hdv A s))) := by
    have h1 := (lb_un h m2).2.2.2.1
    rw [nx_pv m1] at h1
    rw [← h1]
    exact (isoV_vn h _ (lbv_lt hi m2)).2.2.1
  rw [pv]
  unfold phi wyv psS
  rcases (show s % 2 = 0 ∨ s % 2 = 1 by omega) with e | e <;> rw [e] <;> cases smv A sg (hdv A s)
  · rw [if_neg (by decide), if_neg (by decide), show (2 * rn_pv A (mtf A (hdv A s)) + 1) / 2 = rn_pv A (mtf A (hdv A s)) by omega]
    omega
  · rw [if_pos (by decide), if_pos (by decide), show (2 * mtf A (hdv A s)) / 2 = mtf A (hdv A s) by omega]
    omega
  · rw [if_pos (by decide), if_pos (by decide), show (2 * mtf A (hdv A s)) / 2 = mtf A (hdv A s) by omega]
    omega
  · rw [if_neg (by decide), if_neg (by decide), show (2 * rn_pv A (mtf A (hdv A s)) + 1) / 2 = rn_pv A (mtf A (hdv A s)) by omega]
    omega
theorem ps_ov (h : isoV A sg idN R) {s : Nat} (hs : s < 2 * A.flatten.length) : mv_ov R.2.2.1.1 (psS A s) = true ↔ t4o A s := by
  have h1 := lb_un h (v := s / 2) (by omega)
  have h2 := lb_un h (rn_nx_lt (A := A) (v := s / 2) (by omega))
  unfold mv_ov t4o
  have e : psS A s / 2 = lbv A idN (s / 2) := by unfold psS; omega
  rw [Bool.and_eq_true, decide_eq_true_iff, decide_eq_true_iff, e, h1.2.2.2.1, h1.1, h2.1]
  omega
theorem ps_nt (h : isoV A sg idN R) {T : ow_NT} {s : Nat} (hs : s < 2 * A.flatten.length) : nt_sw R T (psS A s) = nt_swap T (gl idN (vAt A (s / 2))) (gl idN (vAt A (rn_nx A (s / 2)))) := by
  have h1 := lb_un h (v := s / 2) (by omega)
  unfold nt_sw
  have e : psS A s / 2 = lbv A idN (s / 2) := by unfold psS; omega
  rw [e, h1.2.2.2.1]
  rfl
theorem ps_b4 (h : isoV A sg idN R) (hp : pm1 R) {s : Nat} (hs : s < 2 * A.flatten.length) : mv_b4 R (psS A s) = true ↔ psS A s < psS A (phi A sg s) ∧ psS A s < psS A (phi A sg (phi A sg s)) ∧ phi A sg (phi A sg (phi A sg s)) = s ∧ (crs A (hdv A s) ≠ crs A (hdv A (phi A sg s)) ∧ crs A (hdv A s) ≠ crs A (hdv A (phi A sg (phi A sg s))) ∧ crs A (hdv A (phi A sg s)) ≠ crs A (hdv A (phi A sg (phi A sg s)))) ∧ (t4o A s ∨ t4o A (phi A sg s) ∨ t4o A (phi A sg (phi A sg s))) := by
  have hd := wkF_ok h.1.1
  have h1 := phi_lt (sg := sg) hd hs
  have h2 := phi_lt (sg := sg) hd h1
  have h3 := phi_lt (sg := sg) hd h2
  have hc : ∀ {t : Nat}, t < 2 * A.flatten.length → lbv A idN (hdv A t) / 2 = crs A (hdv A t) := fun ht => (lbv_hf (isoS_iff.mp h.1) (hdv_lt ht)).1
  unfold mv_b4 mv_pass
  rw [ps_on h hp hs, ps_on h hp h1, ps_on h hp h2, ps_end h hs, ps_end h h1, ps_end h h2, hc hs, hc h1, hc h2]
  simp only [Bool.and_eq_true, Bool.or_eq_true, decide_eq_true_iff, ps_ov h hs, ps_ov h h1, ps_ov h h2]
  constructor
  · rintro ⟨a1, a2, a3, a4, a5, a6, a7⟩
    exact ⟨a1, a2, ps_inj h h3 hs a3, ⟨a4, a6, a5⟩, a7⟩
  · rintro ⟨a1, a2, a3, ⟨a4, a6, a5⟩, a7⟩
    exact ⟨a1, a2, by rw [a3], a4, a5, a6, a7⟩
theorem mb_4 (h : isoV A sg idN R) (hp : pm1 R) : mBi 4 A sg R := by
  have hd := wkF_ok h.1.1
  have hV := h.1.2.1
  have three : ∀ {s : Nat} {Q : ow_NT}, s < 2 * A.flatten.length → mv_b4 R (psS A s) = true → isoV (t4A A s (phi A sg s) (phi A sg (phi A sg s))) sg idN (mv_t4 Q R (psS A s)) := by
    intro s Q hs hB
    have h1 := phi_lt (sg := sg) hd hs
    have h2 := phi_lt (sg := sg) hd h1
    obtain ⟨-, -, b3, b4, -⟩ := (ps_b4 h hp hs).mp hB
    unfold mv_t4
    rw [if_pos hB, ps_on h hp hs, ps_on h hp h1, ps_nt h hs, ps_nt h h1, ps_nt h h2]
    have dj : dj3 A s (phi A sg s) (phi A sg (phi A sg s)) := (tri_pairs (sg := sg) hd ⟨hs, h1, h2⟩ ⟨fun e => b4.1 (by rw [← e]), fun e => b4.2.1 (by rw [← e]), fun e => b4.2.2 (by rw [← e])⟩ (fun t ht => by
      rcases ht with e | e | e <;> rw [e]
      · exact Or.inr (Or.inl rfl)
      · exact Or.inr (Or.inr rfl)
      · exact Or.inl b3) b4.1 b4.2.1 b4.2.2).2.2.2
    rw [t4A_rot dj, t4A_rot (dj3_rot dj), t4A_sw (dj3_rot (dj3_rot dj)), t4_swv h.1.1.1 (by assumption) (by assumption) (by assumption)]
    have m : ∀ {v : Nat}, v < A.flatten.length → vAt A v ∈ A.flatten := fun hv => vAt_mem hv
    have i1 := iso_swv (isoV_cpy (Q := Q) h) (m (v := s / 2) (by omega)) (m (rn_nx_lt (A := A) (v := s / 2) (by omega)))
    have p1 := swA_pm h.1.1.1 (m (v := s / 2) (by omega)) (m (rn_nx_lt (A := A) (v := s / 2) (by omega)))
    have i2 := iso_swv i1 (p1.mem_iff.mpr (m (v := phi A sg s / 2) (by omega))) (p1.mem_iff.mpr (m (rn_nx_lt (A := A) (v := phi A sg s / 2) (by omega))))
    have p2 := (swA_pm i1.1.1.1 (p1.mem_iff.mpr (m (v := phi A sg s / 2) (by omega))) (p1.mem_iff.mpr (m (rn_nx_lt (A := A) (v := phi A sg s / 2) (by omega))))).trans p1
    exact iso_swv i2 (p2.mem_iff.mpr (m (v := phi A sg (phi A sg s) / 2) (by omega))) (p2.mem_iff.mpr (m (rn_nx_lt (A := A) (v := phi A sg (phi A sg s) / 2) (by omega))))
  constructor
  · rintro j hj ⟨F, P, Q, hmk, hQ, hB⟩
    have hj : j < 2 * (2 * R.1) := hj
    have hB : mv_b4 R j = true := hB
    obtain ⟨s, hs, rfl⟩ := ps_sur h (a := j) (by omega)
    obtain ⟨-, -, b3, b4, b5⟩ := (ps_b4 h hp hs).mp hB
    exact ⟨_, sg, ⟨s, hs, rfl, b3, b4, b5, rfl⟩, fun F' P' Q' _ _ => ⟨hB, idN, three hs hB⟩⟩
  · rintro A' sg' ⟨s, hs, rfl, b3, b4, b5, b6⟩
    have main : ∀ t, t < 2 * A.flatten.length → phi A sg' (phi A sg' (phi A sg' t)) = t → t4P A t (phi A sg' t) (phi A sg' (phi A sg' t)) A' → psS A t < psS A (phi A sg' t) → psS A t < psS A (phi A sg' (phi A sg' t)) → ∃ j, j < mv_cnt R.1 4 ∧ ∀ (F P : Nat → Int32) (Q : ow_NT), mv_mk 4 R F P → ow_b24 Q.2.2.1 → mv_B 4 j Q R F P = true ∧ ∃ f, isoV A' sg' f (mv_T 4 j Q R F P) := by
      rintro t ht c1 ⟨c2, c3, rfl⟩ c4 c5
      have hB := (ps_b4 h hp ht).mpr ⟨c4, c5, c1, c2, c3⟩
      have := ps_lt h ht
      exact ⟨psS A t, show psS A t < 2 * (2 * R.1) by omega, fun F P Q hmk hQ => ⟨hB, idN, three ht hB⟩⟩
    obtain ⟨x, hx⟩ : ∃ x, x = phi A sg' s := ⟨_, rfl⟩
    obtain ⟨y, hy⟩ : ∃ y, y = phi A sg' x := ⟨_, rfl⟩
    have hP : t4P A s x y A' := by rw [hy, hx]; exact ⟨b4, b5, b6⟩
    have hxl : x < 2 * A.flatten.length := by rw [hx]; exact phi_lt hd hs
    have hyl : y < 2 * A.flatten.length := by rw [hy]; exact phi_lt hd hxl
    have hys : phi A sg' y = s := by rw [hy, hx]; exact b3
    have nxy : s ≠ x ∧ s ≠ y ∧ x ≠ y := ⟨fun e => hP.1.1 (by rw [← e]), fun e => hP.1.2.1 (by rw [← e]), fun e => hP.1.2.2 (by rw [← e])⟩
    have dj : dj3 A s x y := (tri_pairs (sg := sg') hd ⟨hs, hxl, hyl⟩ nxy (fun t ht => by
      rcases ht with e | e | e <;> rw [e]
      · exact Or.inr (Or.inl hx.symm)
      · exact Or.inr (Or.inr hy.symm)
      · exact Or.inl hys) hP.1.1 hP.1.2.1 hP.1.2.2).2.2.2
    have m1 : psS A s ≠ psS A x := fun e => nxy.1 (ps_inj h hs hxl e)
    have m2 : psS A s ≠ psS A y := fun e => nxy.2.1 (ps_inj h hs hyl e)
    have m3 : psS A x ≠ psS A y := fun e => nxy.2.2 (ps_inj h hxl hyl e)
    have ms := main s hs
    have mx := main x hxl
    have my := main y hyl
    rw [← hx, ← hy, hys] at ms
    rw [← hy, hys, ← hx] at mx
    rw [hys, ← hx, ← hy] at my
    by_cases c1 : psS A s < psS A x ∧ psS A s < psS A y
    · exact ms rfl hP c1.1 c1.2
    · by_cases c2 : psS A x < psS A y ∧ psS A x < psS A s
      · exact mx rfl ((t4P_rot dj).mp hP) c2.1 c2.2
      · exact my rfl ((t4P_rot (dj3_rot dj)).mp ((t4P_rot dj).mp hP)) (by omega) (by omega)
end XP4
end
section
/-! 99zzzzzzzzzzzg.xins -/
/-! visits that come into a list, by name; what net shows it -/
def insL (p : vT) (P : List vT) (L : List vT) : List vT := L.flatMap (fun q => if q = p then q :: P else [q])
def insV (A : rn_L) (p : vT) (P : List vT) : rn_L := A.map (insL p P)
section XINS
variable {A Pre Post : rn_L} {p r r' : vT} {P X Y C L : List vT} {g : vT → Nat} {S : ow_NP}
theorem insL_no : ∀ {L : List vT}, p ∉ L → insL p P L = L
  | [], _ => rfl
  | q :: L, h => by
    have h1 : q ≠ p := fun e => h (by rw [e]; exact List.mem_cons_self)
    have ih := insL_no (L := L) (fun h9 => h (List.mem_cons_of_mem _ h9))
    unfold insL at ih ⊢
    rw [List.flatMap_cons, if_neg h1, ih]
    rfl
theorem insL_mid (h : (X ++ p :: Y).Nodup) : insL p P (X ++ p :: Y) = X ++ p :: (P ++ Y) := by
  obtain ⟨h1, h2⟩ := nd_mid h
  have e1 := insL_no (P := P) h1
  have e2 := insL_no (P := P) h2
  unfold insL at e1 e2 ⊢
  rw [List.flatMap_append, List.flatMap_cons, if_pos rfl, e1, e2]
  rfl
theorem dj_L (hn : (Pre ++ C :: Post).flatten.Nodup) (hL : L ∈ Pre ∨ L ∈ Post) {q s : vT} (hq : q ∈ L) (hs : s ∈ C) : q ≠ s := by
  rw [List.flatten_append, List.flatten_cons] at hn
  have h1 := List.nodup_append.mp hn
  have h2 := List.nodup_append.mp h1.2.1
  rcases hL with hL | hL
  · exact h1.2.2 q (List.mem_flatten.mpr ⟨L, hL, hq⟩) s (List.mem_append_left _ hs)
  · exact fun e => h2.2.2 s hs q (List.mem_flatten.mpr ⟨L, hL, hq⟩) e.symm
theorem insV_at (hn : A.flatten.Nodup) (hp : p ∈ A.flatten) : ∃ Pre X Y Post, A = Pre ++ (X ++ p :: Y) :: Post ∧ ∀ P, insV A p P = Pre ++ (X ++ p :: (P ++ Y)) :: Post := by
  obtain ⟨L, hL, hpL⟩ := List.mem_flatten.mp hp
  have nL := L_nd hn hL
  obtain ⟨Pre, Post, rfl⟩ := List.append_of_mem hL
  obtain ⟨X, Y, rfl⟩ := List.append_of_mem hpL
  refine ⟨Pre, X, Y, Post, rfl, fun P => ?_⟩
  unfold insV
  have rest : ∀ B : rn_L, (∀ K, K ∈ B → K ∈ Pre ∨ K ∈ Post) → B.map (insL p P) = B := fun B hB => (List.map_congr_left (fun K hK => insL_no (fun h9 => dj_L hn (hB K hK) h9 (by simp) rfl))).trans (List.map_id _)
  rw [List.map_append, List.map_cons, insL_mid nL, rest Pre (fun K h => Or.inl h), rest Post (fun K h => Or.inr h)]
theorem set_at {i : Nat} (h : A[i]? = some C) : ∃ Pre Post, A = Pre ++ C :: Post ∧ ∀ P, A.set i P = Pre ++ P :: Post := by
  obtain ⟨h1, h2⟩ := List.getElem?_eq_some_iff.mp h
  have e1 : ∀ P, A.set i P = A.take i ++ P :: A.drop (i + 1) := fun P => List.set_eq_take_append_cons_drop ..  |>.trans (if_pos h1)
  refine ⟨A.take i, A.drop (i + 1), ?_, e1⟩
  rw [← e1 C, ← h2]
  exact (List.set_getElem_self h1).symm
theorem pm_mid : (Pre ++ (X ++ p :: (P ++ Y)) :: Post).flatten.Perm ((Pre ++ (X ++ p :: Y) :: Post).flatten ++ P) := by
  rw [List.flatten_append, List.flatten_cons, List.flatten_append, List.flatten_cons, List.append_assoc Pre.flatten]
  refine List.Perm.append_left _ ?_
  have e1 : (X ++ p :: (P ++ Y)) ++ Post.flatten = (X ++ [p]) ++ (P ++ (Y ++ Post.flatten)) := by simp
  have e2 : ((X ++ p :: Y) ++ Post.flatten) ++ P = (X ++ [p]) ++ ((Y ++ Post.flatten) ++ P) := by simp
  rw [e1, e2]
  exact List.Perm.append_left _ List.perm_append_comm
theorem pm_set : (Pre ++ P :: Post).flatten.Perm ((Pre ++ [] :: Post).flatten ++ P) := by
  rw [List.flatten_append, List.flatten_cons, List.flatten_append, List.flatten_cons, List.append_assoc, List.nil_append]
  exact List.Perm.append_left _ List.perm_append_comm
theorem insV_pm (hn : A.flatten.Nodup) (hp : p ∈ A.flatten) : (insV A p P).flatten.Perm (A.flatten ++ P) := by
  obtain ⟨Pre, X, Y, Post, rfl, e⟩ := insV_at hn hp
  rw [e]
  exact pm_mid
theorem setE_pm {i : Nat} (h : A[i]? = some []) : (A.set i P).flatten.Perm (A.flatten ++ P) := by
  obtain ⟨Pre, Post, rfl, e⟩ := set_at h
  rw [e]
  exact pm_set
theorem insV_cirs (hn : A.flatten.Nodup) (hp : p ∈ A.flatten) : cirs (insV A p P) = cirs A := by
  obtain ⟨Pre, X, Y, Post, rfl, e⟩ := insV_at hn hp
  rw [e, cirs_app2, cirs_app2, cirs_ne (by simp), cirs_ne (by simp)]
theorem setE_cirs {i : Nat} (h : A[i]? = some []) (hP : P ≠ []) : cirs (A.set i P) + 1 = cirs A := by
  obtain ⟨Pre, Post, rfl, e⟩ := set_at h
  rw [e, cirs_app2, cirs_app2, cirs_ne hP, cirs_cons, if_pos rfl]
  omega
/-- the lists that a change does not meet -/
theorem shP_chg {S' : ow_NP} {C' : List vT} (hn : (Pre ++ C' :: Post).flatten.Nodup) (h : shP S g (Pre ++ C :: Post)) (hC : shL S' g C') (ho : ∀ L, (L ∈ Pre ∨ L ∈ Post) → ∀ q, q ∈ L → S'.1 (g q) = S.1 (g q) ∧ S'.2 (g q) = S.2 (g q)) : shP S' g (Pre ++ C' :: Post) := by
  intro L hL
  have hL9 : L = C' ∨ (L ∈ Pre ∨ L ∈ Post) := by
    rcases List.mem_append.mp hL with h9 | h9
    · exact Or.inr (Or.inl h9)
    · rcases List.mem_cons.mp h9 with h9 | h9
      · exact Or.inl h9
      · exact Or.inr (Or.inr h9)
  rcases hL9 with rfl | hL9
  · exact hC
  · refine shL_k (L_nd hn hL) (fun _ _ => rfl) (ho L hL9) (h L ?_)
    rcases hL9 with h9 | h9
    · exact List.mem_append_left _ h9
    · exact List.mem_append_right _ (List.mem_cons_of_mem _ h9)
theorem shP_put1 (hn : (Pre ++ (X ++ p :: r :: Y) :: Post).flatten.Nodup) (hg : gin g (Pre ++ (X ++ p :: r :: Y) :: Post).flatten) (h : shP S g (Pre ++ (X ++ p :: Y) :: Post)) : shP (np_putBehind S (g p) (g r)) g (Pre ++ (X ++ p :: r :: Y) :: Post) := by
  have hmem : (X ++ p :: r :: Y) ∈ Pre ++ (X ++ p :: r :: Y) :: Post := by simp
  have nC := L_nd hn hmem
  have hC0 := h (X ++ p :: Y) (by simp)
  have nC0 : (X ++ p :: Y).Nodup := by
    refine List.Sublist.nodup ?_ nC
    exact List.Sublist.append (List.Sublist.refl _) (List.Sublist.cons₂ _ (List.sublist_cons_self _ _))
  have hs := sc_in (p := p) (L := X ++ p :: Y) (by simp) nC0
  have sub : ∀ a, a ∈ X ++ p :: Y → a ∈ X ++ p :: r :: Y := fun a ha => by
    simp at ha ⊢
    grind
  refine shP_chg hn h (shL_put nC (gin_L hg hmem) hC0) (fun L hL q hq => ?_)
  have hqA : q ∈ (Pre ++ (X ++ p :: r :: Y) :: Post).flatten := by
    refine List.mem_flatten.mpr ⟨L, ?_, hq⟩
    rcases hL with h9 | h9
    · exact List.mem_append_left _ h9
    · exact List.mem_append_right _ (List.mem_cons_of_mem _ h9)
  have far : ∀ s, s ∈ X ++ p :: r :: Y → g q ≠ g s := fun s hs9 e => dj_L hn hL hq hs9 (hg q s hqA (List.mem_flatten.mpr ⟨_, hmem, hs9⟩) e)
  have hS : S.1 (g p) = g (sc (X ++ p :: Y) p) := (hC0 p (by simp)).1
  unfold np_putBehind
  rw [nl_1, nl_2, nl_1, nl_2, hS, if_neg (far r (by simp)), if_neg (far p (by simp)), if_neg (far _ (sub _ hs)), if_neg (far r (by simp))]
  exact ⟨rfl, rfl⟩
theorem shP_nil (hn : (Pre ++ [r] :: Post).flatten.Nodup) (hg : gin g (Pre ++ [r] :: Post).flatten) (h : shP S g (Pre ++ [] :: Post)) : shP (nl S (g r) (g r)) g (Pre ++ [r] :: Post) := by
  refine shP_chg hn h ?_ (fun L hL q hq => ?_)
  · intro q hq
    rw [List.mem_singleton.mp hq, sc_one, nl_1, nl_2, if_pos rfl, if_pos rfl]
    exact ⟨rfl, rfl⟩
  · have hqA : q ∈ (Pre ++ [r] :: Post).flatten := by
      refine List.mem_flatten.mpr ⟨L, ?_, hq⟩
      rcases hL with h9 | h9
      · exact List.mem_append_left _ h9
      · exact List.mem_append_right _ (List.mem_cons_of_mem _ h9)
    have far : g q ≠ g r := fun e => dj_L hn hL hq (show r ∈ [r] by simp) (hg q r hqA (List.mem_flatten.mpr ⟨[r], by simp, by simp⟩) e)
    rw [nl_1, nl_2, if_neg far, if_neg far]
    exact ⟨rfl, rfl⟩
theorem gin_sub {F G : List vT} (h : gin g G) (hs : ∀ a, a ∈ F → a ∈ G) : gin g F := fun p q hp hq => h p q (hs p hp) (hs q hq)
/-- two visits come behind one -/
theorem shP_V (hn : A.flatten.Nodup) (hp : p ∈ A.flatten) (hn1 : (insV A p [r, r']).flatten.Nodup) (hg : gin g (insV A p [r, r']).flatten) (h : shP S g A) : shP (np_putBehind (np_putBehind S (g p) (g r)) (g r) (g r')) g (insV A p [r, r']) := by
  obtain ⟨Pre, X, Y, Post, rfl, e⟩ := insV_at hn hp
  rw [e] at hn1 hg ⊢
  have sl : (Pre ++ (X ++ p :: r :: Y) :: Post).flatten.Sublist (Pre ++ (X ++ p :: ([r, r'] ++ Y)) :: Post).flatten := by
    rw [List.flatten_append, List.flatten_cons, List.flatten_append, List.flatten_cons]
    refine List.Sublist.append (List.Sublist.refl _) (List.Sublist.append (List.Sublist.append (List.Sublist.refl _) ?_) (List.Sublist.refl _))
    exact List.Sublist.cons₂ _ (List.Sublist.cons₂ _ (List.sublist_cons_self _ _))
  have h1 := shP_put1 (List.Sublist.nodup sl hn1) (gin_sub hg (fun a ha => sl.subset ha)) h
  have e1 : X ++ p :: r :: Y = (X ++ [p]) ++ r :: Y := by simp
  have e2 : X ++ p :: ([r, r'] ++ Y) = (X ++ [p]) ++ r :: r' :: Y := by simp
  rw [e1] at h1
  rw [e2] at hn1 hg ⊢
  exact shP_put1 hn1 hg h1
/-- two visits come into a circle -/
theorem shP_E {i : Nat} (hi : A[i]? = some []) (hn1 : (A.set i [r, r']).flatten.Nodup) (hg : gin g (A.set i [r, r']).flatten) (h : shP S g A) : shP (np_putBehind (nl S (g r) (g r)) (g r) (g r')) g (A.set i [r, r']) := by
  obtain ⟨Pre, Post, rfl, e⟩ := set_at hi
  rw [e] at hn1 hg ⊢
  have sl : (Pre ++ [r] :: Post).flatten.Sublist (Pre ++ [r, r'] :: Post).flatten := by
    rw [List.flatten_append, List.flatten_cons, List.flatten_append, List.flatten_cons]
    refine List.Sublist.append (List.Sublist.refl _) (List.Sublist.append ?_ (List.Sublist.refl _))
    exact List.Sublist.cons₂ _ (List.sublist_cons_self _ _)
  have h1 := shP_nil (List.Sublist.nodup sl hn1) (gin_sub hg (fun a ha => sl.subset ha)) h
  exact shP_put1 (X := []) (Y := []) hn1 hg h1
/-- a net of a list -/
theorem iso_mk {sg : Nat → Bool} {f : Nat → Nat} {T : ow_NT} {c : Nat} (ho : okF A.flatten c) (hc : c ≤ 12) (h1 : T.1 = c) (hf : ∀ x, x < c → f x < c) (hi : ∀ x y, x < c → y < c → f x = f y → x = y) (hS : shP T.2.2.1 (gl f) A) (hG : ∀ x, x < c → (T.2.2.2 (f x) < 0 ↔ sg x = true)) (hC : cirs A = T.2.1) : isoV A sg f T := ⟨⟨okF_wk (by omega) ho, by rw [okF_len ho, h1], by omega, fun p hp => by rw [h1]; exact hf _ ((ho.2 p).mp hp).1, fun p q hp hq e => hi _ _ ((ho.2 p).mp hp).1 ((ho.2 q).mp hq).1 e, fun L hL p hp => (hS L hL p hp).1, fun p hp => hG _ ((ho.2 p).mp hp).1, hC⟩, hS⟩
end XINS
/-! building by names -/
section XINB
variable {A : rn_L} {f : Nat → List vT} {g h : Nat} {P P0 P1 : List vT}
theorem bldC_nm {F : vT → List vT} {i : Nat} (hi : i < A.length) (hF : ∀ v, v < A.flatten.length → f v = F (vAt A v)) : bldC A f i = if A.getD i [] = [] then f (A.flatten.length + i) else (A.getD i []).flatMap (fun q => q :: F q) := by
  have e0 := cmp_seg (A := A) hi
  have hl := gD_len (A := A) hi
  have h1 := rn_b_mono A i
  have h2 := rnb_mono2 (A := A) (a := i + 1) (b := A.length) (by omega)
  rw [rn_b_len] at h2
  have e1 : List.range' (rn_b A i) (rn_b A (i + 1) - rn_b A i) = seg (rn_b A i) (rn_b A (i + 1)) := by
    unfold seg
    exact List.range'_eq_map_range ..
  have e2 : (List.range' (rn_b A i) (rn_b A (i + 1) - rn_b A i)).flatMap (fun v => vAt A v :: f v) = (A.getD i []).flatMap (fun q => q :: F q) := by
    rw [← e0, ← e1, List.flatMap_map]
    rw [List.flatMap_def, List.flatMap_def]
    refine congrArg List.flatten (List.map_congr_left (fun v hv => ?_))
    rw [List.mem_range'_1] at hv
    rw [hF v (by omega)]
  unfold bldC
  rw [e2]
  by_cases e : A.getD i [] = []
  · rw [if_pos e, e]
    have : rn_b A i = rn_b A (i + 1) := by
      rw [e] at hl
      have hl : 0 = _ := hl
      omega
    rw [if_pos this]
    exact List.append_nil _
  · rw [if_neg e]
    have : rn_b A i ≠ rn_b A (i + 1) := fun h9 => e (List.eq_nil_of_length_eq_zero (by omega))
    rw [if_neg this]
    rfl
theorem bldA_at {i : Nat} : (bldA A f)[i]? = if i < A.length then some (bldC A f i) else none := by
  unfold bldA
  rw [List.getElem?_map]
  by_cases h : i < A.length
  · rw [if_pos h, List.getElem?_range h]
    rfl
  · rw [if_neg h, List.getElem?_eq_none (by rw [List.length_range]; omega)]
    rfl
/-- a list that is built so -/
theorem bldA_is {B : rn_L} {F : vT → List vT} (hF : ∀ v, v < A.flatten.length → f v = F (vAt A v)) (hB : B.length = A.length) (hE : ∀ i : Nat, A[i]? = some [] → B[i]? = some (f (A.flatten.length + i))) (hN : ∀ (i : Nat) (L : List vT), A[i]? = some L → L ≠ [] → B[i]? = some (L.flatMap (fun q => q :: F q))) : bldA A f = B := by
  refine List.ext_getElem? (fun i => ?_)
  rw [bldA_at]
  by_cases hi : i < A.length
  · rw [if_pos hi, bldC_nm hi hF]
    have e := List.getElem?_eq_getElem hi
    rw [List.getD_eq_getElem?_getD, e]
    by_cases h0 : A[i] = []
    · rw [h0] at e
      rw [hE i e, h0]
      rfl
    · rw [hN i _ e h0]
      show some (if A[i] = [] then _ else _) = _
      rw [if_neg h0]
      rfl
  · rw [if_neg hi, List.getElem?_eq_none (by omega)]
end XINB
end
section
/-! 99zzzzzzzzzzzh.xp1 -/
/-! the moves of both sides: kind 1; places of kind 3 -/
section XP1
variable {A : rn_L} {g h i j : Nat} {P P0 P1 L : List vT} {p q : vT}
theorem fm_pt {α β : Type} {f f' : α → List β} {L : List α} (h : ∀ r, r ∈ L → f r = f' r) : L.flatMap f = L.flatMap f' := by
  rw [List.flatMap_def, List.flatMap_def]
  exact congrArg List.flatten (List.map_congr_left h)
theorem isG_c (h : isG A g) : g < A.flatten.length ∨ ∃ i, g = A.flatten.length + i ∧ A[i]? = some [] := by
  rcases h with h | ⟨h1, h2, h3⟩
  · exact Or.inl h
  · refine Or.inr ⟨g - A.flatten.length, by omega, ?_⟩
    have := gD_len (A := A) h2
    rw [h3, Nat.sub_self, List.getD_eq_getElem?_getD, List.getElem?_eq_getElem h2] at this
    rw [List.getElem?_eq_getElem h2]
    exact congrArg some (List.eq_nil_of_length_eq_zero this)
theorem isG_E (h : A[i]? = some []) : isG A (A.flatten.length + i) := by
  obtain ⟨h1, h2⟩ := List.getElem?_eq_some_iff.mp h
  have := gD_len (A := A) h1
  rw [List.getD_eq_getElem?_getD, h] at this
  have this : 0 = _ := this
  have h3 := rn_b_mono A i
  refine Or.inr ⟨by omega, by omega, ?_⟩
  rw [show A.flatten.length + i - A.flatten.length = i by omega]
  omega
theorem vAt_ij (hn : A.flatten.Nodup) {x y : Nat} (hx : x < A.flatten.length) (hy : y < A.flatten.length) : vAt A x = vAt A y ↔ x = y := ⟨fun e => nodup_at hn (vAt_of hx) (by rw [e]; exact vAt_of hy), fun e => by rw [e]⟩
theorem insL_in2 (hpq : p ≠ q) (hq : q ∉ P0) : insL q P1 (insL p P0 L) = L.flatMap (fun r => r :: ((if r = p then P0 else []) ++ (if r = q then P1 else []))) := by
  unfold insL
  rw [List.flatMap_assoc]
  refine fm_pt (fun r hr => ?_)
  by_cases e : r = p
  · rw [if_pos e, if_pos e, if_neg (fun e9 => hpq (e.symm.trans e9)), List.append_nil]
    have : insL q P1 (r :: P0) = r :: P0 := insL_no (fun h9 => by
      rcases List.mem_cons.mp h9 with h9 | h9
      · exact hpq (e.symm.trans h9.symm)
      · exact hq h9)
    exact this
  · rw [if_neg e, if_neg e, List.nil_append]
    by_cases e2 : r = q
    · rw [if_pos e2]
      show List.flatMap _ [r] = _
      rw [List.flatMap_cons, if_pos e2]
      exact List.append_nil _
    · rw [if_neg e2]
      show List.flatMap _ [r] = _
      rw [List.flatMap_cons, if_neg e2]
      rfl
theorem insL_1 : insL p P L = L.flatMap (fun r => r :: (if r = p then P else [])) := by
  unfold insL
  refine fm_pt (fun r hr => ?_)
  by_cases e : r = p
  · rw [if_pos e, if_pos e]
  · rw [if_neg e, if_neg e]
theorem insV_g : (insV A p P)[i]? = A[i]?.map (insL p P) := List.getElem?_map
theorem insV_l : (insV A p P).length = A.length := List.length_map ..
theorem b_VV (hn : A.flatten.Nodup) (hg : g < A.flatten.length) (hh : h < A.flatten.length) (hgh : g ≠ h) (hq : vAt A h ∉ P0) : bldA A (insG g h P0 P1) = insV (insV A (vAt A g) P0) (vAt A h) P1 := by
  refine bldA_is (F := fun r => (if r = vAt A g then P0 else []) ++ (if r = vAt A h then P1 else [])) (fun v hv => ?_) (by rw [insV_l, insV_l]) (fun i hi => ?_) (fun i L hi hL => ?_)
  · unfold insG
    by_cases e1 : v = g
    · rw [if_pos e1, if_neg (show ¬ v = h by omega), if_pos (show vAt A v = vAt A g by rw [e1]), if_neg (show ¬ vAt A v = vAt A h from fun e => hgh (e1.symm.trans ((vAt_ij hn hv hh).mp e)))]
    · rw [if_neg e1, if_neg (show ¬ vAt A v = vAt A g from fun e => e1 ((vAt_ij hn hv hg).mp e))]
      by_cases e2 : v = h
      · rw [if_pos e2, if_pos (show vAt A v = vAt A h by rw [e2])]
      · rw [if_neg e2, if_neg (show ¬ vAt A v = vAt A h from fun e => e2 ((vAt_ij hn hv hh).mp e))]
  · rw [insV_g, insV_g, hi]
    unfold insG
    rw [if_neg (by omega), if_neg (by omega)]
    rfl
  · rw [insV_g, insV_g, hi]
    show some (insL _ _ (insL _ _ L)) = _
    rw [insL_in2 (fun e => hgh ((vAt_ij hn hg hh).mp e)) hq]
theorem b_V2 (hn : A.flatten.Nodup) (hg : g < A.flatten.length) : bldA A (insG g g P0 P1) = insV A (vAt A g) (P0 ++ P1) := by
  refine bldA_is (F := fun r => if r = vAt A g then P0 ++ P1 else []) (fun v hv => ?_) insV_l (fun i hi => ?_) (fun i L hi hL => ?_)
  · unfold insG
    by_cases e1 : v = g
    · rw [if_pos e1, if_pos e1, if_pos (by rw [e1])]
    · rw [if_neg e1, if_neg e1, if_neg (fun e => e1 ((vAt_ij hn hv hg).mp e))]
      rfl
  · rw [insV_g, hi]
    unfold insG
    rw [if_neg (by omega), if_neg (by omega)]
    rfl
  · rw [insV_g, hi, ← insL_1]
    rfl
theorem set_g {B : rn_L} {C : List vT} (hi : i < B.length) : (B.set i C)[j]? = if i = j then some C else B[j]? := by
  rw [List.getElem?_set]
  by_cases e : i = j
  · rw [if_pos e, if_pos e, if_pos hi]
  · rw [if_neg e, if_neg e]
theorem i_lt (h : A[i]? = some L) : i < A.length := (List.getElem?_eq_some_iff.mp h).1
theorem b_VE (hn : A.flatten.Nodup) (hg : g < A.flatten.length) (hi : A[i]? = some []) : bldA A (insG g (A.flatten.length + i) P0 P1) = (insV A (vAt A g) P0).set i P1 := by
  have hil := i_lt hi
  refine bldA_is (F := fun r => if r = vAt A g then P0 else []) (fun v hv => ?_) (by rw [List.length_set, insV_l]) (fun j hj => ?_) (fun j L hj hL => ?_)
  · unfold insG
    rw [if_neg (show ¬ v = A.flatten.length + i by omega), List.append_nil]
    by_cases e1 : v = g
    · rw [if_pos e1, if_pos (by rw [e1])]
    · rw [if_neg e1, if_neg (fun e => e1 ((vAt_ij hn hv hg).mp e))]
  · rw [set_g (by rw [insV_l]; exact hil), insV_g, hj]
    unfold insG
    rw [if_neg (show ¬ A.flatten.length + j = g by omega), List.nil_append]
    by_cases e : i = j
    · rw [if_pos e, if_pos (by omega)]
    · rw [if_neg e, if_neg (by omega)]
      rfl
  · rw [set_g (by rw [insV_l]; exact hil), insV_g, hj, if_neg (fun e => hL (by rw [e] at hi; exact Option.some.inj (hj.symm.trans hi))), ← insL_1]
    rfl
theorem b_EV (hn : A.flatten.Nodup) (hh : h < A.flatten.length) (hi : A[i]? = some []) (hq : vAt A h ∉ P0) : bldA A (insG (A.flatten.length + i) h P0 P1) = insV (A.set i P0) (vAt A h) P1 := by
  have hil := i_lt hi
  refine bldA_is (F := fun r => if r = vAt A h then P1 else []) (fun v hv => ?_) (by rw [insV_l, List.length_set]) (fun j hj => ?_) (fun j L hj hL => ?_)
  · unfold insG
    rw [if_neg (show ¬ v = A.flatten.length + i by omega), List.nil_append]
    by_cases e1 : v = h
    · rw [if_pos e1, if_pos (by rw [e1])]
    · rw [if_neg e1, if_neg (fun e => e1 ((vAt_ij hn hv hh).mp e))]
  · rw [insV_g, set_g hil, hj]
    unfold insG
    rw [if_neg (show ¬ A.flatten.length + j = h by omega), List.append_nil]
    by_cases e : i = j
    · rw [if_pos e, if_pos (by omega)]
      show some (insL _ _ P0) = _
      rw [insL_no hq]
    · rw [if_neg e, if_neg (by omega)]
      rfl
  · rw [insV_g, set_g hil, hj, if_neg (fun e => hL (by rw [e] at hi; exact Option.some.inj (hj.symm.trans hi))), ← insL_1]
    rfl
theorem b_EE (hi : A[i]? = some []) (hj : A[j]? = some []) (hij : i ≠ j) : bldA A (insG (A.flatten.length + i) (A.flatten.length + j) P0 P1) = (A.set i P0).set j P1 := by
  have hil := i_lt hi
  have hjl := i_lt hj
  refine bldA_is (F := fun r => []) (fun v hv => ?_) (by rw [List.length_set, List.length_set]) (fun k hk => ?_) (fun k L hk hL => ?_)
  · unfold insG
    rw [if_neg (by omega), if_neg (by omega)]
    rfl
  · rw [set_g (by rw [List.length_set]; exact hjl), set_g hil, hk]
    unfold insG
    by_cases e : j = k
    · rw [if_pos e, if_neg (by omega), if_pos (by omega)]
      rfl
    · rw [if_neg e, if_neg (show ¬ A.flatten.length + k = A.flatten.length + j by omega)]
      by_cases e2 : i = k
      · rw [if_pos e2, if_pos (by omega), List.append_nil]
      · rw [if_neg e2, if_neg (by omega)]
        rfl
  · rw [set_g (by rw [List.length_set]; exact hjl), set_g hil, hk, if_neg (fun e => hL (by rw [e] at hj; exact Option.some.inj (hk.symm.trans hj))), if_neg (fun e => hL (by rw [e] at hi; exact Option.some.inj (hk.symm.trans hi)))]
    congr 1
    rw [List.flatMap_singleton']
theorem b_E2 (hi : A[i]? = some []) : bldA A (insG (A.flatten.length + i) (A.flatten.length + i) P0 P1) = A.set i (P0 ++ P1) := by
  have hil := i_lt hi
  refine bldA_is (F := fun r => []) (fun v hv => ?_) (by rw [List.length_set]) (fun k hk => ?_) (fun k L hk hL => ?_)
  · unfold insG
    rw [if_neg (by omega), if_neg (by omega)]
    rfl
  · rw [set_g hil, hk]
    unfold insG
    by_cases e : i = k
    · rw [if_pos e, if_pos (by omega), if_pos (by omega)]
    · rw [if_neg e, if_neg (by omega), if_neg (by omega)]
      rfl
  · rw [set_g hil, hk, if_neg (fun e => hL (by rw [e] at hi; exact Option.some.inj (hk.symm.trans hi)))]
    congr 1
    rw [List.flatMap_singleton']
theorem insG_1 : insG g 1000 P [] = insG g g P [] := by
  funext gp
  unfold insG
  rw [ite_self, ite_self]
/-- two visits come at a place -/
def inQ (A B : rn_L) (af : Option Nat) (γ : vT → Nat) (r r' : vT) : Prop := (∃ p, p ∈ A.flatten ∧ B = insV A p [r, r'] ∧ af = some (γ p)) ∨ ∃ i, A[i]? = some [] ∧ B = A.set i [r, r'] ∧ af = none
theorem inQ_pm {B : rn_L} {af : Option Nat} {γ : vT → Nat} {r r' : vT} (hn : A.flatten.Nodup) (h : inQ A B af γ r r') : B.flatten.Perm (A.flatten ++ [r, r']) := by
  rcases h with ⟨p, h1, rfl, -⟩ | ⟨i, h1, rfl, -⟩
  · exact insV_pm hn h1
  · exact setE_pm h1
theorem inQ_sh {B : rn_L} {af : Option Nat} {γ : vT → Nat} {r r' : vT} {T : ow_NT} (hn : A.flatten.Nodup) (h : inQ A B af γ r r') (hnB : B.flatten.Nodup) (hg : gin γ B.flatten) (hS : shP T.2.2.1 γ A) (hC : cirs A = T.2.1) : shP (nt_pair T af (γ r) (γ r')).2.2.1 γ B ∧ cirs B = (nt_pair T af (γ r) (γ r')).2.1 := by
  rcases h with ⟨p, h1, rfl, rfl⟩ | ⟨i, h1, rfl, rfl⟩
  · exact ⟨shP_V hn h1 hnB hg hS, (insV_cirs hn h1).trans hC⟩
  · refine ⟨shP_E h1 hnB hg hS, ?_⟩
    have := setE_cirs (P := [r, r']) h1 (by simp)
    show cirs _ = T.2.1 - 1
    omega
theorem shP_gcg {S : ow_NP} {γ γ' : vT → Nat} (hn : A.flatten.Nodup) (he : ∀ p, p ∈ A.flatten → γ' p = γ p) (h : shP S γ A) : shP S γ' A := fun L hL => shL_k (L_nd hn hL) (fun p hp => he p (List.mem_flatten.mpr ⟨L, hL, hp⟩)) (fun _ _ => ⟨rfl, rfl⟩) (h L hL)
theorem cir_ex (h : 0 < cirs A) : ∃ i : Nat, A[i]? = some [] := by
  unfold cirs at h
  obtain ⟨L, hL, e⟩ := List.countP_pos_iff.mp h
  obtain ⟨i, hi, e2⟩ := List.getElem_of_mem hL
  refine ⟨i, ?_⟩
  rw [List.getElem?_eq_getElem hi, e2, List.isEmpty_iff.mp e]
theorem cir_ps (h : A[i]? = some []) : 0 < cirs A := by
  unfold cirs
  exact List.countP_pos_iff.mpr ⟨[], List.mem_of_getElem? h, rfl⟩
end XP1
section XP1b
variable {A : rn_L} {sg : Nat → Bool} {R Q : ow_NT}
theorem isoV_ok (h : isoV A sg idN R) : okF A.flatten R.1 := by
  refine ⟨h.1.1.1, fun p => ⟨fun hp => ⟨h.1.2.2.2.1 p hp, (h.1.1.2 p hp).2.1⟩, fun hp => ?_⟩⟩
  obtain ⟨v, hv, e1, e2, -⟩ := vis_of h hp.1 hp.2
  have := vAt_mem hv
  rw [show vAt A v = p from Prod.ext e1 e2] at this
  exact this
theorem su_at {f : Nat → Int32} {c x : Nat} {s : Int32} : su f c s x = if x = c then s else f x := rfl
/-- kind 1: a place on both sides -/
theorem mb_1 (h : isoV A sg idN R) (hA : A.length ≤ 6) : mBi 1 A sg R := by
  have ho := isoV_ok h
  have hn := h.1.1.1
  have hV := h.1.2.1
  have hc0 := h.1.2.2.1
  have hC : cirs A = R.2.1 := h.1.2.2.2.2.2.2.2
  -- what stands on both sides
  have main : ∀ {g k gap : Nat} {Q : ow_NT}, R.1 + 1 ≤ 12 → isG A g → k < 4 → (g < A.flatten.length ∧ gap = lbv A idN g ∨ A.flatten.length ≤ g ∧ gap = 2 * R.1) → mv_b1 R gap = true ∧ isoV (bldA A (insG g 1000 [(R.1, k % 2), (R.1, 1 - k % 2)] [])) (fun i => if i = R.1 then decide (2 ≤ k) else sg i) idN (mv_t1 Q R gap k) := by
    intro g k gap Q hc hg hk hgap
    have hok := o1_ok ho hA (by omega) hg hk
    have hin : inQ A (bldA A (insG g 1000 [(R.1, k % 2), (R.1, 1 - k % 2)] [])) (mv_af R gap) (gl idN) (R.1, k % 2) (R.1, 1 - k % 2) := by
      rw [insG_1]
      rcases hgap with ⟨g1, g2⟩ | ⟨g1, g2⟩
      · refine Or.inl ⟨vAt A g, vAt_mem g1, ?_, ?_⟩
        · rw [b_V2 hn g1, List.append_nil]
        · have := lbv_lt (isoS_iff.mp h.1) g1
          have this : lbv A idN g < 2 * R.1 := this
          unfold mv_af
          rw [if_neg (by omega), g2]
          rfl
      · rcases isG_c hg with h9 | ⟨i, e, hi⟩
        · omega
        · refine Or.inr ⟨i, hi, ?_, ?_⟩
          · rw [e, b_E2 hi, List.append_nil]
          · unfold mv_af
            rw [if_pos g2]
    have hb : mv_b1 R gap = true := by
      unfold mv_b1
      rcases hgap with ⟨g1, g2⟩ | ⟨g1, g2⟩
      · have := lbv_lt (isoS_iff.mp h.1) g1
        have this : lbv A idN g < 2 * R.1 := this
        rw [decide_eq_false (show ¬ gap = 2 * R.1 by omega)]
        rfl
      · rcases isG_c hg with h9 | ⟨i, e, hi⟩
        · omega
        · have := cir_ps hi
          rw [decide_eq_false (show ¬ R.2.1 = 0 by omega), Bool.and_false]
          rfl
    refine ⟨hb, ?_⟩
    unfold mv_t1
    rw [if_pos hb]
    have gg : gin (gl idN) (bldA A (insG g 1000 [(R.1, k % 2), (R.1, 1 - k % 2)] [])).flatten := by
      intro p q hp hq e
      have h1 := (hok.2 p).mp hp
      have h2 := (hok.2 q).mp hq
      have e : 2 * p.1 + p.2 = 2 * q.1 + q.2 := e
      exact Prod.ext (by omega) (by omega)
    have hcp := isoV_cpy (Q := Q) h
    obtain ⟨s1, s2⟩ := inQ_sh (T := nt_add (nt_copy Q R) (mv_sg k)) hn hin hok.1 gg hcp.2 hC
    have e1 : gl idN (R.1, k % 2) = 2 * R.1 + k % 2 := rfl
    have e2 : gl idN (R.1, 1 - k % 2) = mt (2 * R.1 + k % 2) := by
      show 2 * R.1 + (1 - k % 2) = _
      unfold mt
      rcases (show k % 2 = 0 ∨ k % 2 = 1 by omega) with e | e <;> rw [e]
      · rw [if_pos (by omega)]
      · rw [if_neg (by omega)]
        omega
    rw [e1, e2] at s1 s2
    have hT1 : (nt_pair (nt_add (nt_copy Q R) (mv_sg k)) (mv_af R gap) (2 * R.1 + k % 2) (mt (2 * R.1 + k % 2))).1 = R.1 + 1 := by
      cases mv_af R gap <;> rfl
    have hTG : (nt_pair (nt_add (nt_copy Q R) (mv_sg k)) (mv_af R gap) (2 * R.1 + k % 2) (mt (2 * R.1 + k % 2))).2.2.2 = su (nt_copy Q R).2.2.2 R.1 (mv_sg k) := by
      cases mv_af R gap <;> rfl
    refine iso_mk hok hc hT1 (fun x hx => hx) (fun x y _ _ e => e) s1 (fun x hx => ?_) s2
    rw [hTG, su_at]
    show (if x = R.1 then _ else _) < 0 ↔ (if x = R.1 then _ else _) = true
    by_cases e : x = R.1
    · rw [if_pos e, if_pos e, decide_eq_true_iff]
      unfold mv_sg
      rcases (show k = 0 ∨ k = 1 ∨ k = 2 ∨ k = 3 by omega) with rfl | rfl | rfl | rfl <;> decide
    · rw [if_neg e, if_neg e]
      have := hcp.1.2.2.2.2.2.2.1 (x, 0) ((ho.2 _).mpr ⟨show x < R.1 by omega, show 0 < 2 by omega⟩)
      exact this
  constructor
  · rintro j hj ⟨F, P, Q, hmk, hQ, hB⟩
    have hB : mv_b1 R (j / 4) = true := hB
    have hj : j < if R.1 + 1 ≤ 12 then (2 * R.1 + 1) * 4 else 0 := hj
    by_cases hc : R.1 + 1 ≤ 12
    · rw [if_pos hc] at hj
      have hgap : ∃ g, isG A g ∧ (g < A.flatten.length ∧ j / 4 = lbv A idN g ∨ A.flatten.length ≤ g ∧ j / 4 = 2 * R.1) := by
        by_cases e : j / 4 < 2 * R.1
        · obtain ⟨v, hv, e2⟩ := lbv_sur (isoS_iff.mp h.1) e
          exact ⟨v, Or.inl hv, Or.inl ⟨hv, e2.symm⟩⟩
        · have e : j / 4 = 2 * R.1 := by omega
          unfold mv_b1 at hB
          rw [decide_eq_true e] at hB
          have h0 : R.2.1 ≠ 0 := fun e9 => by
            rw [e9] at hB
            exact absurd hB (by decide)
          obtain ⟨i, hi⟩ := cir_ex (A := A) (by omega)
          exact ⟨A.flatten.length + i, isG_E hi, Or.inr ⟨by omega, e⟩⟩
      obtain ⟨g, hg, hgap⟩ := hgap
      exact ⟨_, _, ⟨hc, g, j % 4, hg, by omega, rfl, rfl⟩, fun F' P' Q' _ _ => ⟨hB, idN, (main (Q := Q') hc hg (k := j % 4) (by omega) hgap).2⟩⟩
    · rw [if_neg hc] at hj
      omega
  · rintro A' sg' ⟨hc, g, k, hg, hk, rfl, rfl⟩
    have hcn : mv_cnt R.1 1 = (2 * R.1 + 1) * 4 := if_pos hc
    rw [hcn]
    have fin : ∀ gap, gap ≤ 2 * R.1 → (g < A.flatten.length ∧ gap = lbv A idN g ∨ A.flatten.length ≤ g ∧ gap = 2 * R.1) → ∃ j, j < (2 * R.1 + 1) * 4 ∧ ∀ (F P : Nat → Int32) (Q : ow_NT), mv_mk 1 R F P → ow_b24 Q.2.2.1 → mv_B 1 j Q R F P = true ∧ ∃ f, isoV (bldA A (insG g 1000 [(R.1, k % 2), (R.1, 1 - k % 2)] [])) (fun i => if i = R.1 then decide (2 ≤ k) else sg i) f (mv_T 1 j Q R F P) := by
      intro gap h1 h2
      refine ⟨gap * 4 + k, by omega, fun F P Q hmk hQ => ?_⟩
      show mv_b1 R ((gap * 4 + k) / 4) = true ∧ ∃ f, isoV _ _ f (mv_t1 Q R ((gap * 4 + k) / 4) ((gap * 4 + k) % 4))
      rw [show (gap * 4 + k) / 4 = gap by omega, show (gap * 4 + k) % 4 = k by omega]
      have := main (Q := Q) hc hg hk h2
      exact ⟨this.1, idN, this.2⟩
    rcases isG_c hg with h9 | ⟨i, e, hi⟩
    · have := lbv_lt (isoS_iff.mp h.1) h9
      have this : lbv A idN g < 2 * R.1 := this
      exact fin _ (by omega) (Or.inl ⟨h9, rfl⟩)
    · exact fin _ (Nat.le_refl _) (Or.inr ⟨by omega, rfl⟩)
end XP1b
end
section
/-! 99zzzzzzzzzzzi.xp3 -/
/-! the moves of both sides: kind 3 -/
def f9 (c b x : Nat) : Nat := if x = c then c + b else if x = c + 1 then c + 1 - b else x
section XP3
variable {A : rn_L} {sg : Nat → Bool} {R Q : ow_NT} {g h i k o u c b0 b1 ch : Nat} {P P1 L : List vT} {p o1 o2 : vT}
theorem f9_lt (hb : b0 < 2) {x : Nat} (hx : x < c + 2) : f9 c b0 x < c + 2 := by
  unfold f9
  repeat' split
  all_goals omega
theorem f9_inj (hb : b0 < 2) {x y : Nat} (hx : x < c + 2) (hy : y < c + 2) (e : f9 c b0 x = f9 c b0 y) : x = y := by
  unfold f9 at e
  repeat' split at e
  all_goals omega
theorem f9_id {x : Nat} (hx : x < c) : f9 c b0 x = x := by
  unfold f9
  rw [if_neg (by omega), if_neg (by omega)]
theorem insV_pp (hp : p ∉ P) : insV (insV A p P) p P1 = insV A p (P1 ++ P) := by
  unfold insV
  rw [List.map_map]
  refine List.map_congr_left (fun L hL => ?_)
  show insL p P1 (insL p P L) = _
  unfold insL
  rw [List.flatMap_assoc]
  refine fm_pt (fun r hr => ?_)
  by_cases e : r = p
  · rw [if_pos e, if_pos e, List.flatMap_cons, if_pos e]
    have : insL p P1 P = P := insL_no hp
    show (r :: P1) ++ insL p P1 P = _
    rw [this]
    rfl
  · rw [if_neg e, if_neg e, List.flatMap_cons, if_neg e]
    rfl
theorem insV_lt (h2 : o2 ∉ A.flatten) (h12 : o1 ≠ o2) (hp : p ∈ A.flatten) : insV (insV A p [o1, o2]) o2 P1 = insV A p ([o1, o2] ++ P1) := by
  unfold insV
  rw [List.map_map]
  refine List.map_congr_left (fun L hL => ?_)
  show insL o2 P1 (insL p [o1, o2] L) = _
  unfold insL
  rw [List.flatMap_assoc]
  refine fm_pt (fun r hr => ?_)
  have hr2 : r ≠ o2 := fun e => h2 (by rw [← e]; exact List.mem_flatten.mpr ⟨L, hL, hr⟩)
  by_cases e : r = p
  · rw [if_pos e, if_pos e, List.flatMap_cons, if_neg hr2, List.flatMap_cons, if_neg h12, List.flatMap_cons, if_pos rfl]
    show r :: o1 :: (o2 :: P1 ++ []) = _
    rw [List.append_nil]
    rfl
  · rw [if_neg e, if_neg e, List.flatMap_cons, if_neg hr2]
    rfl
theorem insV_set (h2 : o2 ∉ A.flatten) (h12 : o1 ≠ o2) (hi : A[i]? = some []) : insV (A.set i [o1, o2]) o2 P1 = A.set i ([o1, o2] ++ P1) := by
  have hil := i_lt hi
  refine List.ext_getElem? (fun j => ?_)
  rw [insV_g, set_g hil, set_g hil]
  by_cases e : i = j
  · rw [if_pos e, if_pos e]
    show some (insL o2 P1 [o1, o2]) = _
    unfold insL
    rw [List.flatMap_cons, if_neg h12, List.flatMap_cons, if_pos rfl]
    show some (o1 :: (o2 :: P1 ++ [])) = _
    rw [List.append_nil]
    rfl
  · rw [if_neg e, if_neg e]
    by_cases hj : j < A.length
    · rw [List.getElem?_eq_getElem hj]
      show some (insL o2 P1 _) = _
      rw [insL_no (fun h9 => h2 (List.mem_flatten.mpr ⟨_, List.getElem_mem hj, h9⟩))]
    · rw [List.getElem?_eq_none (by omega)]
      rfl
theorem t3_lo (hk : k < 4) : t3P c k = [(c + k % 2, 0), (2 * c + 1 - (c + k % 2), 0)] ∧ t3Q c k = [(c + k / 2 % 2, 1), (2 * c + 1 - (c + k / 2 % 2), 1)] := by
  have e : k / 4 = 0 := by omega
  unfold t3P t3Q
  rw [e]
  exact ⟨rfl, rfl⟩
theorem t3_hi (hk : 4 ≤ k) (hk8 : k < 8) : t3P c k = [(c + k / 2 % 2, 1), (2 * c + 1 - (c + k / 2 % 2), 1)] ∧ t3Q c k = [(c + k % 2, 0), (2 * c + 1 - (c + k % 2), 0)] := by
  have e : k / 4 = 1 := by omega
  unfold t3P t3Q
  rw [e]
  exact ⟨rfl, rfl⟩
/-- the places of both sides -/
def plcR (A : rn_L) (c g h k o u : Nat) : Prop := (g < A.flatten.length ∧ o = lbv A idN g ∨ (∃ i, g = A.flatten.length + i ∧ A[i]? = some []) ∧ o = 2 * c) ∧ ((g ≠ h ∧ k < 4 ∧ (h < A.flatten.length ∧ u = lbv A idN h ∨ (∃ i, h = A.flatten.length + i ∧ A[i]? = some []) ∧ u = 2 * c + 1)) ∨ (g = h ∧ k < 4 ∧ u = 2 * c) ∨ (g = h ∧ 4 ≤ k ∧ (g < A.flatten.length ∧ u = lbv A idN g ∨ A.flatten.length ≤ g ∧ u = 2 * c)))
theorem pl_in (hV : isoV A sg idN R) (hk : k < 8) (hpl : plcR A R.1 g h k o u) : ∃ A1 A2, inQ A A1 (mv_af R o) (gl (f9 R.1 (k % 2))) (R.1 + k % 2, 0) (2 * R.1 + 1 - (R.1 + k % 2), 0) ∧ inQ A1 A2 (mv_au R u) (gl (f9 R.1 (k % 2))) (R.1 + k / 2 % 2, 1) (2 * R.1 + 1 - (R.1 + k / 2 % 2), 1) ∧ (t3A A R.1 g h k = A2 ∨ ∃ i Z W, A[i]? = some [] ∧ A2 = A.set i (Z ++ W) ∧ t3A A R.1 g h k = A.set i (W ++ Z)) := by
  have ho := isoV_ok hV
  have hn := hV.1.1.1
  have hlb : ∀ {v : Nat}, v < A.flatten.length → lbv A idN v < 2 * R.1 ∧ lbv A idN v = gl (f9 R.1 (k % 2)) (vAt A v) := by
    intro v hv
    have h1 := lb_un hV hv
    refine ⟨lbv_lt (isoS_iff.mp hV.1) hv, ?_⟩
    show _ = 2 * f9 R.1 (k % 2) (crs A v) + uns A v
    rw [f9_id h1.2.2.1]
    exact h1.1
  have nw : ∀ {q : vT}, q ∈ A.flatten → q.1 < R.1 := fun hq => ((ho.2 _).mp hq).1
  have o2n : ((2 * R.1 + 1 - (R.1 + k % 2), 0) : vT) ∉ A.flatten := fun h9 => by
    have := nw h9
    have this : 2 * R.1 + 1 - (R.1 + k % 2) < R.1 := this
    omega
  have o12 : ((R.1 + k % 2, 0) : vT) ≠ (2 * R.1 + 1 - (R.1 + k % 2), 0) := fun e => by
    have := congrArg Prod.fst e
    have this : R.1 + k % 2 = 2 * R.1 + 1 - (R.1 + k % 2) := this
    omega
  have qno : ∀ {q : vT}, q ∈ A.flatten → q ∉ [((R.1 + k % 2, 0) : vT), (2 * R.1 + 1 - (R.1 + k % 2), 0)] := by
    intro q hq h9
    have h1 := nw hq
    rcases List.mem_cons.mp h9 with h9 | h9
    · have := congrArg Prod.fst h9
      have this : q.1 = R.1 + k % 2 := this
      omega
    · have := congrArg Prod.fst (List.mem_singleton.mp h9)
      have this : q.1 = 2 * R.1 + 1 - (R.1 + k % 2) := this
      omega
  have go2 : gl (f9 R.1 (k % 2)) (2 * R.1 + 1 - (R.1 + k % 2), 0) = 2 * R.1 + 2 := by
    show 2 * f9 R.1 (k % 2) (2 * R.1 + 1 - (R.1 + k % 2)) + 0 = _
    unfold f9
    rcases (show k % 2 = 0 ∨ k % 2 = 1 by omega) with e | e <;> rw [e]
    · rw [if_neg (by omega), if_pos (by omega)]
      omega
    · rw [if_pos (by omega)]
      omega
  have au_v : ∀ {v : Nat}, v < A.flatten.length → mv_au R (lbv A idN v) = some (gl (f9 R.1 (k % 2)) (vAt A v)) := by
    intro v hv
    obtain ⟨e1, e2⟩ := hlb hv
    unfold mv_au
    rw [if_pos e1, e2]
  have au_2 : mv_au R (2 * R.1) = some (gl (f9 R.1 (k % 2)) (2 * R.1 + 1 - (R.1 + k % 2), 0)) := by
    unfold mv_au
    rw [if_neg (by omega), if_pos rfl, go2]
  have au_n : mv_au R (2 * R.1 + 1) = none := by
    unfold mv_au
    rw [if_neg (by omega), if_neg (by omega)]
  obtain ⟨hg, hu⟩ := hpl
  rcases hg with ⟨hg, eo⟩ | ⟨⟨i, eg, hi⟩, eo⟩
  · obtain ⟨e1, e2⟩ := hlb hg
    have pin : inQ A (insV A (vAt A g) [(R.1 + k % 2, 0), (2 * R.1 + 1 - (R.1 + k % 2), 0)]) (mv_af R o) (gl (f9 R.1 (k % 2))) (R.1 + k % 2, 0) (2 * R.1 + 1 - (R.1 + k % 2), 0) := Or.inl ⟨vAt A g, vAt_mem hg, rfl, by
      unfold mv_af
      rw [if_neg (by omega), eo, e2]⟩
    have pm := inQ_pm hn pin
    have inA : ∀ {q : vT}, q ∈ A.flatten → q ∈ (insV A (vAt A g) [(R.1 + k % 2, 0), (2 * R.1 + 1 - (R.1 + k % 2), 0)]).flatten := fun hq => pm.mem_iff.mpr (List.mem_append_left _ hq)
    refine ⟨insV A (vAt A g) [(R.1 + k % 2, 0), (2 * R.1 + 1 - (R.1 + k % 2), 0)], ?_⟩
    rcases hu with ⟨hgh, hk4, hu⟩ | ⟨rfl, hk4, rfl⟩ | ⟨rfl, hk4, hu⟩
    · obtain ⟨eP, eQ⟩ := t3_lo (c := R.1) hk4
      rcases hu with ⟨hh, rfl⟩ | ⟨⟨j, rfl, hj⟩, rfl⟩
      · refine ⟨_, pin, Or.inl ⟨vAt A h, inA (vAt_mem hh), rfl, au_v hh⟩, Or.inl ?_⟩
        unfold t3A
        rw [eP, eQ, b_VV hn hg hh hgh (qno (vAt_mem hh))]
      · refine ⟨_, pin, Or.inr ⟨j, by rw [insV_g, hj]; rfl, rfl, au_n⟩, Or.inl ?_⟩
        unfold t3A
        rw [eP, eQ, b_VE hn hg hj]
    · obtain ⟨eP, eQ⟩ := t3_lo (c := R.1) hk4
      refine ⟨_, pin, Or.inl ⟨_, pm.mem_iff.mpr (List.mem_append_right _ (List.mem_cons_of_mem _ List.mem_cons_self)), rfl, au_2⟩, Or.inl ?_⟩
      unfold t3A
      rw [eP, eQ, b_V2 hn hg, insV_lt o2n o12 (vAt_mem hg)]
    · obtain ⟨eP, eQ⟩ := t3_hi (c := R.1) hk4 hk
      rcases hu with ⟨-, rfl⟩ | ⟨h9, -⟩
      · refine ⟨_, pin, Or.inl ⟨vAt A g, inA (vAt_mem hg), rfl, au_v hg⟩, Or.inl ?_⟩
        unfold t3A
        rw [eP, eQ, b_V2 hn hg, insV_pp (qno (vAt_mem hg))]
      · omega
  · subst eg
    have pin : inQ A (A.set i [(R.1 + k % 2, 0), (2 * R.1 + 1 - (R.1 + k % 2), 0)]) (mv_af R o) (gl (f9 R.1 (k % 2))) (R.1 + k % 2, 0) (2 * R.1 + 1 - (R.1 + k % 2), 0) := Or.inr ⟨i, hi, rfl, by
      unfold mv_af
      rw [if_pos eo]⟩
    have pm := inQ_pm hn pin
    have inA : ∀ {q : vT}, q ∈ A.flatten → q ∈ (A.set i [(R.1 + k % 2, 0), (2 * R.1 + 1 - (R.1 + k % 2), 0)]).flatten := fun hq => pm.mem_iff.mpr (List.mem_append_left _ hq)
    refine ⟨A.set i [(R.1 + k % 2, 0), (2 * R.1 + 1 - (R.1 + k % 2), 0)], ?_⟩
    rcases hu with ⟨hgh, hk4, hu⟩ | ⟨rfl, hk4, rfl⟩ | ⟨rfl, hk4, hu⟩
    · obtain ⟨eP, eQ⟩ := t3_lo (c := R.1) hk4
      rcases hu with ⟨hh, rfl⟩ | ⟨⟨j, rfl, hj⟩, rfl⟩
      · refine ⟨_, pin, Or.inl ⟨vAt A h, inA (vAt_mem hh), rfl, au_v hh⟩, Or.inl ?_⟩
        unfold t3A
        rw [eP, eQ, b_EV hn hh hi (qno (vAt_mem hh))]
      · have hij : i ≠ j := fun e => hgh (by rw [e])
        refine ⟨_, pin, Or.inr ⟨j, by rw [set_g (i_lt hi), if_neg hij]; exact hj, rfl, au_n⟩, Or.inl ?_⟩
        unfold t3A
        rw [eP, eQ, b_EE hi hj hij]
    · obtain ⟨eP, eQ⟩ := t3_lo (c := R.1) hk4
      refine ⟨_, pin, Or.inl ⟨_, pm.mem_iff.mpr (List.mem_append_right _ (List.mem_cons_of_mem _ List.mem_cons_self)), rfl, au_2⟩, Or.inl ?_⟩
      unfold t3A
      rw [eP, eQ, b_E2 hi, insV_set o2n o12 hi]
    · obtain ⟨eP, eQ⟩ := t3_hi (c := R.1) hk4 hk
      rcases hu with ⟨h9, -⟩ | ⟨-, rfl⟩
      · omega
      · refine ⟨_, pin, Or.inl ⟨_, pm.mem_iff.mpr (List.mem_append_right _ (List.mem_cons_of_mem _ List.mem_cons_self)), rfl, au_2⟩, Or.inr ⟨i, [(R.1 + k % 2, 0), (2 * R.1 + 1 - (R.1 + k % 2), 0)], [(R.1 + k / 2 % 2, 1), (2 * R.1 + 1 - (R.1 + k / 2 % 2), 1)], hi, ?_, ?_⟩⟩
        · rw [insV_set o2n o12 hi]
        · unfold t3A
          rw [eP, eQ, b_E2 hi]
theorem pl_of (hV : isoV A sg idN R) (hg : isG A g) (hh : isG A h) (hk : k < 4 ∨ g = h ∧ k < 8) : ∃ o u, plcR A R.1 g h k o u ∧ o ≤ 2 * R.1 ∧ u ≤ 2 * R.1 + 1 ∧ mv_nd R o u ≤ R.2.1 := by
  have hC : cirs A = R.2.1 := hV.1.2.2.2.2.2.2.2
  have hl : ∀ {v : Nat}, v < A.flatten.length → lbv A idN v < 2 * R.1 := fun hv => lbv_lt (isoS_iff.mp hV.1) hv
  unfold mv_nd
  rcases isG_c hg with hg | ⟨i, hg, hi⟩
  · have hlg := hl hg
    by_cases hgh : g = h
    · by_cases hk4 : k < 4
      · exact ⟨lbv A idN g, 2 * R.1, ⟨Or.inl ⟨hg, rfl⟩, Or.inr (Or.inl ⟨hgh, hk4, rfl⟩)⟩, by omega, by omega, by rw [if_neg (by omega), if_neg (by omega)]; omega⟩
      · exact ⟨lbv A idN g, lbv A idN g, ⟨Or.inl ⟨hg, rfl⟩, Or.inr (Or.inr ⟨hgh, by omega, Or.inl ⟨hg, rfl⟩⟩)⟩, by omega, by omega, by rw [if_neg (by omega), if_neg (by omega)]; omega⟩
    · have hk4 : k < 4 := by omega
      rcases isG_c hh with hh | ⟨j, hh, hj⟩
      · have := hl hh
        exact ⟨lbv A idN g, lbv A idN h, ⟨Or.inl ⟨hg, rfl⟩, Or.inl ⟨hgh, hk4, Or.inl ⟨hh, rfl⟩⟩⟩, by omega, by omega, by rw [if_neg (by omega), if_neg (by omega)]; omega⟩
      · have := cir_ps hj
        exact ⟨lbv A idN g, 2 * R.1 + 1, ⟨Or.inl ⟨hg, rfl⟩, Or.inl ⟨hgh, hk4, Or.inr ⟨⟨j, hh, hj⟩, rfl⟩⟩⟩, by omega, by omega, by rw [if_neg (by omega), if_pos rfl]; omega⟩
  · have c1 := cir_ps hi
    by_cases hgh : g = h
    · by_cases hk4 : k < 4
      · exact ⟨2 * R.1, 2 * R.1, ⟨Or.inr ⟨⟨i, hg, hi⟩, rfl⟩, Or.inr (Or.inl ⟨hgh, hk4, rfl⟩)⟩, by omega, by omega, by rw [if_pos rfl, if_neg (by omega)]; omega⟩
      · exact ⟨2 * R.1, 2 * R.1, ⟨Or.inr ⟨⟨i, hg, hi⟩, rfl⟩, Or.inr (Or.inr ⟨hgh, by omega, Or.inr ⟨by omega, rfl⟩⟩)⟩, by omega, by omega, by rw [if_pos rfl, if_neg (by omega)]; omega⟩
    · have hk4 : k < 4 := by omega
      rcases isG_c hh with hh | ⟨j, hh, hj⟩
      · have := hl hh
        exact ⟨2 * R.1, lbv A idN h, ⟨Or.inr ⟨⟨i, hg, hi⟩, rfl⟩, Or.inl ⟨hgh, hk4, Or.inl ⟨hh, rfl⟩⟩⟩, by omega, by omega, by rw [if_pos rfl, if_neg (by omega)]; omega⟩
      · have hij : i ≠ j := fun e => hgh (by rw [hg, hh, e])
        have c2 := setE_cirs (P := [((0, 0) : vT)]) hi (by simp)
        have c3 : 0 < cirs (A.set i [((0, 0) : vT)]) := cir_ps (i := j) (by rw [set_g (i_lt hi), if_neg hij]; exact hj)
        exact ⟨2 * R.1, 2 * R.1 + 1, ⟨Or.inr ⟨⟨i, hg, hi⟩, rfl⟩, Or.inl ⟨hgh, hk4, Or.inr ⟨⟨j, hh, hj⟩, rfl⟩⟩⟩, by omega, by omega, by rw [if_pos rfl, if_pos rfl]; omega⟩
theorem pl_to (hV : isoV A sg idN R) (ho : o ≤ 2 * R.1) (hu : u ≤ 2 * R.1 + 1) (hnd : mv_nd R o u ≤ R.2.1) : ∃ g h, isG A g ∧ isG A h ∧ (plcR A R.1 g h 0 o u ∨ g = h ∧ plcR A R.1 g h 4 o u) := by
  have hC : cirs A = R.2.1 := hV.1.2.2.2.2.2.2.2
  have sur : ∀ {x : Nat}, x < 2 * R.1 → ∃ v, v < A.flatten.length ∧ x = lbv A idN v := fun hx => by
    obtain ⟨v, hv, e⟩ := lbv_sur (isoS_iff.mp hV.1) hx
    exact ⟨v, hv, e.symm⟩
  have h4 : ∀ k, k < 4 → k < 4 := fun k hk => hk
  unfold mv_nd at hnd
  by_cases eo : o = 2 * R.1
  · rw [if_pos eo] at hnd
    obtain ⟨i, hi⟩ := cir_ex (A := A) (by omega)
    by_cases eu : u = 2 * R.1 + 1
    · rw [if_pos eu] at hnd
      have c2 := setE_cirs (P := [((0, 0) : vT)]) hi (by simp)
      obtain ⟨j, hj⟩ := cir_ex (A := A.set i [((0, 0) : vT)]) (by omega)
      rw [set_g (i_lt hi)] at hj
      by_cases hij : i = j
      · rw [if_pos hij] at hj
        cases hj
      · rw [if_neg hij] at hj
        exact ⟨_, _, isG_E hi, isG_E hj, Or.inl ⟨Or.inr ⟨⟨i, rfl, hi⟩, eo⟩, Or.inl ⟨by omega, by omega, Or.inr ⟨⟨j, rfl, hj⟩, eu⟩⟩⟩⟩
    · by_cases eu2 : u = 2 * R.1
      · exact ⟨_, _, isG_E hi, isG_E hi, Or.inl ⟨Or.inr ⟨⟨i, rfl, hi⟩, eo⟩, Or.inr (Or.inl ⟨rfl, by omega, eu2⟩)⟩⟩
      · obtain ⟨w, hw, e⟩ := sur (x := u) (by omega)
        exact ⟨_, w, isG_E hi, Or.inl hw, Or.inl ⟨Or.inr ⟨⟨i, rfl, hi⟩, eo⟩, Or.inl ⟨by omega, by omega, Or.inl ⟨hw, e⟩⟩⟩⟩
  · obtain ⟨v, hv, e⟩ := sur (x := o) (by omega)
    by_cases eu : u = 2 * R.1 + 1
    · rw [if_pos eu] at hnd
      obtain ⟨j, hj⟩ := cir_ex (A := A) (by omega)
      exact ⟨v, _, Or.inl hv, isG_E hj, Or.inl ⟨Or.inl ⟨hv, e⟩, Or.inl ⟨by omega, by omega, Or.inr ⟨⟨j, rfl, hj⟩, eu⟩⟩⟩⟩
    · by_cases eu2 : u = 2 * R.1
      · exact ⟨v, v, Or.inl hv, Or.inl hv, Or.inl ⟨Or.inl ⟨hv, e⟩, Or.inr (Or.inl ⟨rfl, by omega, eu2⟩)⟩⟩
      · by_cases euo : u = o
        · exact ⟨v, v, Or.inl hv, Or.inl hv, Or.inr ⟨rfl, Or.inl ⟨hv, e⟩, Or.inr (Or.inr ⟨rfl, by omega, Or.inl ⟨hv, by rw [euo]; exact e⟩⟩)⟩⟩
        · obtain ⟨w, hw, e2⟩ := sur (x := u) (by omega)
          exact ⟨v, w, Or.inl hv, Or.inl hw, Or.inl ⟨Or.inl ⟨hv, e⟩, Or.inl ⟨fun e9 => euo (by rw [e2, e, e9]), by omega, Or.inl ⟨hw, e2⟩⟩⟩⟩
theorem pl_k (hpl : plcR A c g h k o u) {k' : Nat} (hk : k < 4 ↔ k' < 4) : plcR A c g h k' o u := by
  obtain ⟨h1, h2⟩ := hpl
  refine ⟨h1, ?_⟩
  rcases h2 with ⟨a, b, d⟩ | ⟨a, b, d⟩ | ⟨a, b, d⟩
  · exact Or.inl ⟨a, hk.mp b, d⟩
  · exact Or.inr (Or.inl ⟨a, hk.mp b, d⟩)
  · exact Or.inr (Or.inr ⟨a, Nat.le_of_not_lt (fun h9 => absurd (hk.mpr h9) (Nat.not_lt.mpr b)), d⟩)
end XP3
end
section
/-! 99zzzzzzzzzzzj.xp3b -/
/-! the moves of both sides: kind 3, whole -/
section XP3B
variable {A A1 A2 : rn_L} {sg : Nat → Bool} {R Q : ow_NT} {g h i k o u ch : Nat} {f : Nat → Nat} {T : ow_NT}
theorem iso_ro {Z W : List vT} (hi : A[i]? = some []) (h : isoV (A.set i (Z ++ W)) sg f T) : isoV (A.set i (W ++ Z)) sg f T := by
  obtain ⟨Pre, Post, rfl, e⟩ := set_at hi
  rw [e] at h ⊢
  have hn := h.1.1.1
  have nC : (Z ++ W).Nodup := L_nd hn (by simp)
  refine isoV_lists h ?_ ?_ (fun L hL p hp => ?_)
  · rw [List.flatten_append, List.flatten_append, List.flatten_cons, List.flatten_cons]
    exact List.Perm.append_left _ (List.Perm.append_right _ List.perm_append_comm)
  · rw [cirs_app2, cirs_app2, cirs_cons, cirs_cons]
    have : (W ++ Z = []) ↔ (Z ++ W = []) := by
      rw [List.append_eq_nil_iff, List.append_eq_nil_iff]
      exact ⟨fun h => ⟨h.2, h.1⟩, fun h => ⟨h.2, h.1⟩⟩
    by_cases e9 : Z ++ W = []
    · rw [if_pos e9, if_pos (this.mpr e9)]
    · rw [if_neg e9, if_neg (fun h9 => e9 (this.mp h9))]
  · rcases List.mem_append.mp hL with h9 | h9
    · exact ⟨L, List.mem_append_left _ h9, hp, rfl⟩
    · rcases List.mem_cons.mp h9 with h9 | h9
      · rw [h9] at hp ⊢
        have hp' : p ∈ Z ++ W := by
          rcases List.mem_append.mp hp with h8 | h8
          · exact List.mem_append_right _ h8
          · exact List.mem_append_left _ h8
        exact ⟨Z ++ W, by simp, hp', sc_rot nC hp'⟩
      · exact ⟨L, List.mem_append_right _ (List.mem_cons_of_mem _ h9), hp, rfl⟩
theorem t3b_1 : (mv_t3b Q R o u ch).1 = R.1 + 2 := by
  unfold mv_t3b mv_t3a
  cases mv_au R u <;> cases mv_af R o <;> rfl
theorem t3b_G : (mv_t3b Q R o u ch).2.2.2 = su (su (nt_copy Q R).2.2.2 R.1 (mv_s1 ch)) (R.1 + 1) (mv_s2 ch) := by
  unfold mv_t3b mv_t3a
  cases mv_au R u <;> cases mv_af R o <;> rfl
theorem cpy_G {x : Nat} (hx : x < R.1) : (nt_copy Q R).2.2.2 x = R.2.2.2 x := by
  show va_cpy R.2.2.2 Q.2.2.2 0 0 R.1 x = _
  rw [pk_cpy_in (Nat.zero_le x) (by omega), Nat.zero_add, Nat.sub_zero]
theorem t3b_p (hp : pm1 R) : pm1 (mv_t3b Q R o u ch) := by
  intro x hx
  rw [t3b_1] at hx
  rw [t3b_G, su_at]
  by_cases e1 : x = R.1 + 1
  · rw [if_pos e1]
    unfold mv_s2
    split
    · exact Or.inr rfl
    · exact Or.inl rfl
  · rw [if_neg e1, su_at]
    by_cases e2 : x = R.1
    · rw [if_pos e2]
      unfold mv_s1
      split
      · exact Or.inl rfl
      · exact Or.inr rfl
    · rw [if_neg e2, cpy_G (by omega)]
      exact hp x (by omega)
theorem iso_3 (hV : isoV A sg idN R) (hc : R.1 + 2 ≤ 12) (e0 : ch % 2 = k % 2) (e1 : ch / 2 % 2 = if k % 2 = k / 2 % 2 then 0 else 1) (i1 : inQ A A1 (mv_af R o) (gl (f9 R.1 (k % 2))) (R.1 + k % 2, 0) (2 * R.1 + 1 - (R.1 + k % 2), 0)) (i2 : inQ A1 A2 (mv_au R u) (gl (f9 R.1 (k % 2))) (R.1 + k / 2 % 2, 1) (2 * R.1 + 1 - (R.1 + k / 2 % 2), 1)) : isoV A2 (t3S sg R.1) (f9 R.1 (k % 2)) (mv_t3b Q R o u ch) := by
  have ho := isoV_ok hV
  have hn := hV.1.1.1
  have hC : cirs A = R.2.1 := hV.1.2.2.2.2.2.2.2
  have b0 : k % 2 < 2 := by omega
  have b1 : k / 2 % 2 < 2 := by omega
  have ok2 := okB_F ho (two_ok (c := R.1) (a := k % 2) (b := k / 2 % 2) (u := 0) b0 b1 (by omega))
  have pm1' := inQ_pm hn i1
  have nA : (A.flatten ++ [((R.1 + k % 2, 0) : vT), (2 * R.1 + 1 - (R.1 + k % 2), 0)] ++ [((R.1 + k / 2 % 2, 1) : vT), (2 * R.1 + 1 - (R.1 + k / 2 % 2), 1)]).Nodup := by
    have := ok2.1
    rw [List.append_assoc]
    exact this
  have n1 : A1.flatten.Nodup := pm1'.nodup_iff.mpr (List.nodup_append.mp nA).1
  have pm2 := (inQ_pm n1 i2).trans (List.Perm.append_right _ pm1')
  have hok : okF A2.flatten (R.1 + 2) := by
    refine okF_pm pm2 ?_
    rw [List.append_assoc]
    exact ok2
  have gin2 : gin (gl (f9 R.1 (k % 2))) A2.flatten := by
    intro p q hp hq e
    have h1 := (hok.2 p).mp hp
    have h2 := (hok.2 q).mp hq
    have e : 2 * f9 R.1 (k % 2) p.1 + p.2 = 2 * f9 R.1 (k % 2) q.1 + q.2 := e
    exact Prod.ext (f9_inj b0 h1.1 h2.1 (by omega)) (by omega)
  have gin1 : gin (gl (f9 R.1 (k % 2))) A1.flatten := gin_sub gin2 (fun a ha => (inQ_pm n1 i2).mem_iff.mpr (List.mem_append_left _ ha))
  have hcp := isoV_cpy (Q := Q) hV
  have sA : shP (nt_copy Q R).2.2.1 (gl (f9 R.1 (k % 2))) A := shP_gcg hn (fun p hp => by
    show 2 * f9 R.1 (k % 2) p.1 + p.2 = 2 * p.1 + p.2
    rw [f9_id ((ho.2 p).mp hp).1]) hcp.2
  have l1 : gl (f9 R.1 (k % 2)) (R.1 + k % 2, 0) = 2 * R.1 := by
    show 2 * f9 R.1 (k % 2) (R.1 + k % 2) + 0 = _
    unfold f9
    rcases (show k % 2 = 0 ∨ k % 2 = 1 by omega) with e | e <;> rw [e]
    · rw [if_pos (by omega)]
      omega
    · rw [if_neg (by omega), if_pos (by omega)]
      omega
  have l2 : gl (f9 R.1 (k % 2)) (2 * R.1 + 1 - (R.1 + k % 2), 0) = 2 * R.1 + 2 := by
    show 2 * f9 R.1 (k % 2) (2 * R.1 + 1 - (R.1 + k % 2)) + 0 = _
    unfold f9
    rcases (show k % 2 = 0 ∨ k % 2 = 1 by omega) with e | e <;> rw [e]
    · rw [if_neg (by omega), if_pos (by omega)]
      omega
    · rw [if_pos (by omega)]
      omega
  have l34 : gl (f9 R.1 (k % 2)) (R.1 + k / 2 % 2, 1) = (if ch / 2 % 2 = 0 then 2 * R.1 + 1 else 2 * R.1 + 3) ∧ gl (f9 R.1 (k % 2)) (2 * R.1 + 1 - (R.1 + k / 2 % 2), 1) = if ch / 2 % 2 = 0 then 2 * R.1 + 3 else 2 * R.1 + 1 := by
    show 2 * f9 R.1 (k % 2) (R.1 + k / 2 % 2) + 1 = _ ∧ 2 * f9 R.1 (k % 2) (2 * R.1 + 1 - (R.1 + k / 2 % 2)) + 1 = _
    rcases (show k % 2 = 0 ∨ k % 2 = 1 by omega) with e | e <;> rcases (show k / 2 % 2 = 0 ∨ k / 2 % 2 = 1 by omega) with e2 | e2 <;> rw [e, e2] at e1 ⊢ <;> unfold f9
    · have e1 : ch / 2 % 2 = 0 := e1
      rw [e1, if_pos (show R.1 + 0 = R.1 by omega), if_pos rfl, if_neg (show ¬ 2 * R.1 + 1 - (R.1 + 0) = R.1 by omega), if_pos (show 2 * R.1 + 1 - (R.1 + 0) = R.1 + 1 by omega), if_pos rfl]
      omega
    · have e1 : ch / 2 % 2 = 1 := e1
      rw [e1, if_neg (show ¬ R.1 + 1 = R.1 by omega), if_pos rfl, if_neg (show ¬ 1 = 0 by omega), if_pos (show 2 * R.1 + 1 - (R.1 + 1) = R.1 by omega), if_neg (show ¬ 1 = 0 by omega)]
      omega
    · have e1 : ch / 2 % 2 = 1 := e1
      rw [e1, if_pos (show R.1 + 0 = R.1 by omega), if_neg (show ¬ 1 = 0 by omega), if_neg (show ¬ 2 * R.1 + 1 - (R.1 + 0) = R.1 by omega), if_pos (show 2 * R.1 + 1 - (R.1 + 0) = R.1 + 1 by omega), if_neg (show ¬ 1 = 0 by omega)]
      omega
    · have e1 : ch / 2 % 2 = 0 := e1
      rw [e1, if_neg (show ¬ R.1 + 1 = R.1 by omega), if_pos rfl, if_pos rfl, if_pos (show 2 * R.1 + 1 - (R.1 + 1) = R.1 by omega), if_pos rfl]
      omega
  obtain ⟨l3, l4⟩ := l34
  obtain ⟨s1, s2⟩ := inQ_sh (T := nt_add (nt_add (nt_copy Q R) (mv_s1 ch)) (mv_s2 ch)) hn i1 n1 gin1 sA hC
  rw [l1, l2] at s1 s2
  obtain ⟨s3, s4⟩ := inQ_sh (T := mv_t3a Q R o ch) n1 i2 hok.1 gin2 s1 s2
  rw [l3, l4] at s3 s4
  refine iso_mk hok hc t3b_1 (fun x hx => f9_lt b0 hx) (fun x y hx hy e => f9_inj b0 hx hy e) s3 (fun x hx => ?_) s4
  rw [t3b_G, su_at]
  unfold t3S f9 mv_s1 mv_s2
  rw [e0]
  rcases (show k % 2 = 0 ∨ k % 2 = 1 by omega) with e | e <;> rw [e]
  · by_cases x1 : x = R.1
    · rw [if_pos x1, if_pos x1, if_neg (by omega), su_at, if_pos (by omega)]
      decide
    · by_cases x2 : x = R.1 + 1
      · rw [if_neg x1, if_pos x2, if_neg x1, if_pos x2, if_pos (by omega)]
        decide
      · rw [if_neg x1, if_neg x2, if_neg x1, if_neg x2, if_neg x2, su_at, if_neg x1]
        exact hcp.1.2.2.2.2.2.2.1 (x, 0) ((ho.2 _).mpr ⟨show x < R.1 by omega, show 0 < 2 by omega⟩)
  · by_cases x1 : x = R.1
    · rw [if_pos x1, if_pos x1, if_pos (by omega)]
      decide
    · by_cases x2 : x = R.1 + 1
      · rw [if_neg x1, if_pos x2, if_neg x1, if_pos x2, if_neg (by omega), su_at, if_pos (by omega)]
        decide
      · rw [if_neg x1, if_neg x2, if_neg x1, if_neg x2, if_neg x2, su_at, if_neg x1]
        exact hcp.1.2.2.2.2.2.2.1 (x, 0) ((ho.2 _).mpr ⟨show x < R.1 by omega, show 0 < 2 by omega⟩)
theorem iso_3t (hV : isoV A sg idN R) (hc : R.1 + 2 ≤ 12) (hk : k < 8) (e0 : ch % 2 = k % 2) (e1 : ch / 2 % 2 = if k % 2 = k / 2 % 2 then 0 else 1) (hpl : plcR A R.1 g h k o u) : isoV (t3A A R.1 g h k) (t3S sg R.1) (f9 R.1 (k % 2)) (mv_t3b Q R o u ch) := by
  obtain ⟨A1, A2, i1, i2, i3⟩ := pl_in hV hk hpl
  have := iso_3 (Q := Q) hV hc e0 e1 i1 i2
  rcases i3 with i3 | ⟨i, Z, W, h1, h2, h3⟩
  · rw [i3]
    exact this
  · rw [h3]
    rw [h2] at this
    exact iso_ro h1 this
/-- pushed arcs that stay plane meet -/
def mM3 (R : ow_NT) : Prop := ∀ (F P : Nat → Int32) (Q : ow_NT) (o u ch : Nat), mv_mk 3 R F P → ow_b24 Q.2.2.1 → R.1 + 2 ≤ 12 → ch < 4 → o < 2 * R.1 → u < 2 * R.1 → nt_plane (mv_t3b Q R o u ch) = true → mv_meet F P o u = true
theorem mb_3 (hV : isoV A sg idN R) (hp : pm1 R) (hM : mM3 R) : mBi 3 A sg R := by
  constructor
  · rintro j hj ⟨F, P, Q, hmk, hQ, hB⟩
    have hj : j < if R.1 + 2 ≤ 12 then (2 * R.1 + 1) * (2 * R.1 + 2) * 4 else 0 := hj
    by_cases hc : R.1 + 2 ≤ 12
    · rw [if_pos hc] at hj
      have hB : (mv_b3 R F P (j / 4 / (2 * R.1 + 2)) (j / 4 % (2 * R.1 + 2)) && nt_plane (mv_t3b Q R (j / 4 / (2 * R.1 + 2)) (j / 4 % (2 * R.1 + 2)) (j % 4))) = true := hB
      obtain ⟨o, eo⟩ : ∃ o, o = j / 4 / (2 * R.1 + 2) := ⟨_, rfl⟩
      obtain ⟨u, eu⟩ : ∃ u, u = j / 4 % (2 * R.1 + 2) := ⟨_, rfl⟩
      have hol : o < 2 * R.1 + 1 := by
        rw [eo]
        refine Nat.div_lt_of_lt_mul ?_
        rw [Nat.mul_comm]
        omega
      have hul : u < 2 * R.1 + 2 := by
        rw [eu]
        exact Nat.mod_lt _ (by omega)
      rw [← eo, ← eu] at hB
      obtain ⟨hb3, hpl⟩ := Bool.and_eq_true_iff.mp hB
      have hnd : mv_nd R o u ≤ R.2.1 := by
        unfold mv_b3 at hb3
        exact of_decide_eq_true (Bool.and_eq_true_iff.mp hb3).1
      have hb39 : ∀ (F' P' : Nat → Int32) (Q' : ow_NT), mv_mk 3 R F' P' → ow_b24 Q'.2.2.1 → nt_plane (mv_t3b Q' R o u (j % 4)) = true → mv_b3 R F' P' o u = true := by
        intro F' P' Q' hmk' hQ' hpl'
        unfold mv_b3
        rw [decide_eq_true hnd, Bool.true_and]
        by_cases h1 : o < 2 * R.1
        · by_cases h2 : u < 2 * R.1
          · rw [hM F' P' Q' o u (j % 4) hmk' hQ' hc (by omega) h1 h2 hpl']
            rw [Bool.not_true, Bool.and_false, Bool.and_false]
            rfl
          · rw [decide_eq_false h2, Bool.false_and, Bool.and_false]
            rfl
        · rw [decide_eq_false h1, Bool.false_and]
          rfl
      have eT : ∀ (F' P' : Nat → Int32) (Q' : ow_NT), mv_mk 3 R F' P' → ow_b24 Q'.2.2.1 → nt_plane (mv_t3b Q' R o u (j % 4)) = true → mv_B 3 j Q' R F' P' = true ∧ mv_T 3 j Q' R F' P' = mv_t3b Q' R o u (j % 4) := by
        intro F' P' Q' hmk' hQ' hpl'
        have hb := hb39 F' P' Q' hmk' hQ' hpl'
        constructor
        · show (mv_b3 R F' P' (j / 4 / (2 * R.1 + 2)) (j / 4 % (2 * R.1 + 2)) && nt_plane (mv_t3b Q' R (j / 4 / (2 * R.1 + 2)) (j / 4 % (2 * R.1 + 2)) (j % 4))) = true
          rw [← eo, ← eu, hb, hpl']
          rfl
        · show mv_t3 Q' R F' P' (j / 4 / (2 * R.1 + 2)) (j / 4 % (2 * R.1 + 2)) (j % 4) = _
          rw [← eo, ← eu]
          exact if_pos hb
      clear hB eo eu
      obtain ⟨g, h, hg, hh, hpc⟩ := pl_to hV (by omega) (by omega) hnd
      have key : ∀ k, k < 8 → (k < 4 ∨ g = h) → (j % 4) % 2 = k % 2 → (j % 4) / 2 % 2 = (if k % 2 = k / 2 % 2 then 0 else 1) → plcR A R.1 g h k o u → ∃ A' sg', OM A sg R.1 3 A' sg' ∧ ∀ (F P : Nat → Int32) (Q : ow_NT), mv_mk 3 R F P → ow_b24 Q.2.2.1 → mv_B 3 j Q R F P = true ∧ ∃ f, isoV A' sg' f (mv_T 3 j Q R F P) := by
        intro k hk8 hk e0 e1 hpc
        have hi : ∀ Q : ow_NT, isoV _ _ _ (mv_t3b Q R o u (j % 4)) := fun Q => iso_3t (Q := Q) hV hc hk8 e0 e1 hpc
        have hpn := plnA_of (hi Q) (t3b_p hp) hpl
        refine ⟨_, _, ⟨hc, g, h, k, hg, hh, ?_, rfl, rfl, hpn⟩, fun F' P' Q' hmk' hQ' => by
          obtain ⟨t1, t2⟩ := eT F' P' Q' hmk' hQ' (hpn _ _ (hi Q') (t3b_p hp))
          rw [t2]
          exact ⟨t1, _, hi Q'⟩⟩
        rcases hk with h9 | h9
        · exact Or.inl h9
        · exact Or.inr ⟨h9, hk8⟩
      have c4 : j % 4 = 0 ∨ j % 4 = 1 ∨ j % 4 = 2 ∨ j % 4 = 3 := by omega
      rcases hpc with hpc | ⟨hgh, hpc⟩
      · rcases c4 with e | e | e | e <;> rw [e] at key
        · exact key 0 (by decide) (Or.inl (by decide)) rfl rfl (pl_k hpc (by decide))
        · exact key 3 (by decide) (Or.inl (by decide)) rfl rfl (pl_k hpc (by decide))
        · exact key 2 (by decide) (Or.inl (by decide)) rfl rfl (pl_k hpc (by decide))
        · exact key 1 (by decide) (Or.inl (by decide)) rfl rfl (pl_k hpc (by decide))
      · rcases c4 with e | e | e | e <;> rw [e] at key
        · exact key 4 (by decide) (Or.inr hgh) rfl rfl (pl_k hpc (by decide))
        · exact key 7 (by decide) (Or.inr hgh) rfl rfl (pl_k hpc (by decide))
        · exact key 6 (by decide) (Or.inr hgh) rfl rfl (pl_k hpc (by decide))
        · exact key 5 (by decide) (Or.inr hgh) rfl rfl (pl_k hpc (by decide))
    · rw [if_neg hc] at hj
      omega
  · rintro A' sg' ⟨hc, g, h, k, hg, hh, hk, rfl, rfl, hpln⟩
    obtain ⟨o, u, hpc, hol, hul, hnd⟩ := pl_of hV hg hh hk
    have hk8 : k < 8 := by omega
    obtain ⟨ch, hch, e0, e1⟩ : ∃ ch, ch < 4 ∧ ch % 2 = k % 2 ∧ ch / 2 % 2 = if k % 2 = k / 2 % 2 then 0 else 1 := by
      rcases (show k % 2 = 0 ∨ k % 2 = 1 by omega) with e | e <;> rcases (show k / 2 % 2 = 0 ∨ k / 2 % 2 = 1 by omega) with e2 | e2 <;> rw [e, e2]
      · exact ⟨0, by decide, rfl, rfl⟩
      · exact ⟨2, by decide, rfl, rfl⟩
      · exact ⟨3, by decide, rfl, rfl⟩
      · exact ⟨1, by decide, rfl, rfl⟩
    have hcn : mv_cnt R.1 3 = (2 * R.1 + 1) * (2 * R.1 + 2) * 4 := if_pos hc
    refine ⟨(o * (2 * R.1 + 2) + u) * 4 + ch, ?_, fun F P Q hmk hQ => ?_⟩
    · rw [hcn]
      have m1 := Nat.mul_le_mul_right (2 * R.1 + 2) hol
      have m2 : (2 * R.1 + 1) * (2 * R.1 + 2) = 2 * R.1 * (2 * R.1 + 2) + (2 * R.1 + 2) := Nat.succ_mul _ _
      generalize (2 * R.1 + 1) * (2 * R.1 + 2) = m3 at m2 ⊢
      generalize 2 * R.1 * (2 * R.1 + 2) = m4 at m1 m2
      generalize o * (2 * R.1 + 2) = m5 at m1 ⊢
      omega
    · have d1 : ((o * (2 * R.1 + 2) + u) * 4 + ch) / 4 = o * (2 * R.1 + 2) + u := by omega
      have d2 : ((o * (2 * R.1 + 2) + u) * 4 + ch) % 4 = ch := by omega
      have d3 : (o * (2 * R.1 + 2) + u) / (2 * R.1 + 2) = o := by
        rw [Nat.mul_comm, Nat.mul_add_div (by omega), Nat.div_eq_of_lt (by omega), Nat.add_zero]
      have d4 : (o * (2 * R.1 + 2) + u) % (2 * R.1 + 2) = u := by
        rw [Nat.mul_comm, Nat.mul_add_mod, Nat.mod_eq_of_lt (by omega)]
      have hi := iso_3t (Q := Q) hV hc hk8 e0 e1 hpc
      have hpl : nt_plane (mv_t3b Q R o u ch) = true := hpln _ _ hi (t3b_p hp)
      have hb3 : mv_b3 R F P o u = true := by
        unfold mv_b3
        rw [decide_eq_true hnd, Bool.true_and]
        by_cases h1 : o < 2 * R.1
        · by_cases h2 : u < 2 * R.1
          · rw [hM F P Q o u ch hmk hQ hc hch h1 h2 hpl]
            rw [Bool.not_true, Bool.and_false, Bool.and_false]
            rfl
          · rw [decide_eq_false h2, Bool.false_and, Bool.and_false]
            rfl
        · rw [decide_eq_false h1, Bool.false_and]
          rfl
      show (mv_b3 R F P (((o * (2 * R.1 + 2) + u) * 4 + ch) / 4 / (2 * R.1 + 2)) (((o * (2 * R.1 + 2) + u) * 4 + ch) / 4 % (2 * R.1 + 2)) && nt_plane (mv_t3b Q R (((o * (2 * R.1 + 2) + u) * 4 + ch) / 4 / (2 * R.1 + 2)) (((o * (2 * R.1 + 2) + u) * 4 + ch) / 4 % (2 * R.1 + 2)) (((o * (2 * R.1 + 2) + u) * 4 + ch) % 4))) = true ∧ ∃ f, isoV _ _ f (mv_t3 Q R F P (((o * (2 * R.1 + 2) + u) * 4 + ch) / 4 / (2 * R.1 + 2)) (((o * (2 * R.1 + 2) + u) * 4 + ch) / 4 % (2 * R.1 + 2)) (((o * (2 * R.1 + 2) + u) * 4 + ch) % 4))
      rw [d1, d2, d3, d4, hb3, hpl]
      refine ⟨rfl, f9 R.1 (k % 2), ?_⟩
      unfold mv_t3
      rw [if_pos hb3]
      exact hi
end XP3B
end
section
/-! 99zzzzzzzzzzzk.xpush -/
/-! pushed arcs that stay plane share a face -/
section PU
variable {c v w k x y e1 b1 b2 : Nat} {S St : ow_NP} {b bt : Nat → Bool} {f : Nat → Nat} {X : List Nat} {P : Nat → Bool} {ph : Nat → Nat}
theorem pu_abs (hX : ∀ d, d ∈ X → d < 4 * c + 8) (hdv : pm_dv f X) (hk : k + 2 ≤ X.length) (hx : x < 4 * c) (hy : y < 4 * c) (hold : ∀ d, d < 4 * c + 8 → f d = f e1 ∨ ∃ d', d' < 4 * c ∧ f d' = f d) (hlt : ∀ d, d < 4 * c → ph d < 4 * c) (hinv : ∀ d, d < 4 * c → f (ph d) = f d ∨ (d = x ∧ f (ph d) = f y) ∨ (d = y ∧ f (ph d) = f x)) (hP : ∀ d, d < 4 * c → P (ph d) = P d) (hPx : P x = true) (hPy : P y = false) : ∃ (g : Nat → Nat) (Y : List Nat), (∀ d, d < 4 * c → g (ph d) = g d) ∧ (∀ d, d ∈ Y → d < 4 * c) ∧ pm_dv g Y ∧ k + 1 ≤ Y.length := by
  classical
  have r1 := pm_rest hdv (f e1)
  have d1 := pm_fil (fun x => !decide (f x = f e1)) hdv
  obtain ⟨X1, hX1⟩ : ∃ X1, X1 = X.filter (fun x => !decide (f x = f e1)) := ⟨_, rfl⟩
  rw [← hX1] at r1 d1
  have m1 : ∀ d, d ∈ X1 → ∃ d', d' < 4 * c ∧ f d' = f d := by
    intro d hd
    rw [hX1] at hd
    obtain ⟨h1, h2⟩ := List.mem_filter.mp hd
    rcases hold d (hX d h1) with h9 | h9
    · rw [decide_eq_true h9] at h2
      cases h2
    · exact h9
  have reps : ∀ L : List Nat, (∀ d, d ∈ L → ∃ d', d' < 4 * c ∧ f d' = f d) → ∃ Z : List Nat, Z.map f = L.map f ∧ ∀ d, d ∈ Z → d < 4 * c := by
    intro L
    induction L with
    | nil => exact fun _ => ⟨[], rfl, fun d hd => absurd hd List.not_mem_nil⟩
    | cons a L ih =>
      intro hL
      obtain ⟨Z, z1, z2⟩ := ih (fun d hd => hL d (List.mem_cons_of_mem _ hd))
      obtain ⟨a', a1, a2⟩ := hL a List.mem_cons_self
      refine ⟨a' :: Z, by rw [List.map_cons, List.map_cons, z1, a2], fun d hd => ?_⟩
      rcases List.mem_cons.mp hd with h9 | h9
      · rw [h9]
        exact a1
      · exact z2 d h9
  obtain ⟨Z, z1, z2⟩ := reps X1 m1
  have zl : Z.length = X1.length := by
    have := congrArg List.length z1
    rw [List.length_map, List.length_map] at this
    exact this
  have zd : pm_dv f Z := by
    unfold pm_dv at d1 ⊢
    rw [z1]
    exact d1
  obtain ⟨Z', q1, q2, q3⟩ := pm_mg_dv zd (f x) (f y)
  have gxy : pm_mg f (f x) (f y) x = pm_mg f (f x) (f y) y := pm_mg_m
  obtain ⟨Y, y1, y2, y3⟩ := pm_sp_dv q3 hPx hPy gxy
  have gi : ∀ d, d < 4 * c → pm_mg f (f x) (f y) (ph d) = pm_mg f (f x) (f y) d := by
    intro d hd
    rcases hinv d hd with h9 | ⟨h8, h9⟩ | ⟨h8, h9⟩
    · exact pm_mg_e h9
    · rw [pm_mg_e h9, h8, gxy]
    · rw [pm_mg_e h9, h8, gxy]
  refine ⟨_, Y, fun d hd => ?_, fun d hd => ?_, y3, by omega⟩
  · unfold pm_sp
    rw [gi d hd, hP d hd]
  · rcases y1 d hd with h9 | h9 | h9
    · rw [h9]; exact hx
    · rw [h9]; exact hy
    · exact z2 d (q1 d h9)
theorem ph_e : pn_ph S b (2 * x) = if b (S.1 x) = true then 2 * mt (S.1 x) else 2 * mt (S.1 x) + 1 := by
  unfold pn_ph pn_al
  rw [if_pos (by omega), show 2 * x / 2 = x by omega]
  unfold pn_rt
  rw [show (2 * S.1 x + 1) / 2 = S.1 x by omega, show (2 * S.1 x + 1) % 2 = 1 by omega]
  cases b (S.1 x) <;> rfl
theorem ph_o : pn_ph S b (2 * x + 1) = if b (S.2 x) = true then 2 * mt (S.2 x) + 1 else 2 * mt (S.2 x) := by
  unfold pn_ph pn_al
  rw [if_neg (by omega), show (2 * x + 1) / 2 = x by omega]
  unfold pn_rt
  rw [show 2 * S.2 x / 2 = S.2 x by omega, show 2 * S.2 x % 2 = 0 by omega]
  cases b (S.2 x) <;> rfl
/-- the arc from v goes over that from w, through new crossings c and c + 1 -/
def puN (c v w b1 b2 : Nat) (S St : ow_NP) : Prop := St.1 v = 2 * c ∧ St.1 (2 * c) = 2 * c + 2 ∧ St.1 (2 * c + 2) = S.1 v ∧ St.1 w = b1 ∧ St.1 b1 = b2 ∧ St.1 b2 = S.1 w ∧ (∀ x, x < 2 * c → x ≠ v → x ≠ w → St.1 x = S.1 x) ∧ St.2 (2 * c) = v ∧ St.2 (2 * c + 2) = 2 * c ∧ St.2 (S.1 v) = 2 * c + 2 ∧ St.2 b1 = w ∧ St.2 b2 = b1 ∧ St.2 (S.1 w) = b2 ∧ ∀ x, x < 2 * c → x ≠ S.1 v → x ≠ S.1 w → St.2 x = S.2 x
theorem pu_main (hv : vn c S) (hvw : v ≠ w) (h1 : v < 2 * c) (h2 : w < 2 * c) (hb : ∀ x, x < 2 * c → bt x = b x) (hB : bt (2 * c + 1) = !bt (2 * c) ∧ bt (2 * c + 2) = !bt (2 * c) ∧ bt (2 * c + 3) = bt (2 * c)) (hbb : b1 = 2 * c + 1 ∧ b2 = 2 * c + 3 ∨ b1 = 2 * c + 3 ∧ b2 = 2 * c + 1) (hN : puN c v w b1 b2 S St) (hf : ∀ d, d < 4 * c + 8 → f (pn_ph St bt d) = f d) : ∃ sx sy e1, (sx = 2 * v ∨ sx = 2 * v + 1) ∧ (sy = 2 * w ∨ sy = 2 * w + 1) ∧ (∀ d, d < 4 * c → f (pn_ph S b d) = f d ∨ (d = sdD S sx ∧ f (pn_ph S b d) = f (sdD S sy)) ∨ (d = sdD S sy ∧ f (pn_ph S b d) = f (sdD S sx))) ∧ ∀ d, d < 4 * c + 8 → f d = f e1 ∨ ∃ d', d' < 4 * c ∧ f d' = f d := by
  obtain ⟨n1, n2, n3, n4, n5, n6, n7, p1, p2, p3, p4, p5, p6, p7⟩ := hN
  obtain ⟨B1, B2, B3⟩ := hB
  obtain ⟨v1, v2, v3, v4⟩ := hv v h1
  obtain ⟨w1, w2, w3, w4⟩ := hv w h2
  have hvw' : S.1 v ≠ S.1 w := fun e => hvw (vn_inj hv h1 h2 e)
  -- the same turn, old and new
  have tA : pn_ph St bt (2 * (2 * c + 2)) = pn_ph S b (2 * v) := by rw [ph_e, ph_e, n3, hb _ v1]
  have tB : pn_ph St bt (2 * (2 * c) + 1) = pn_ph S b (2 * S.1 v + 1) := by rw [ph_o, ph_o, p1, v3, hb _ h1]
  have tC : pn_ph St bt (2 * b2) = pn_ph S b (2 * w) := by rw [ph_e, ph_e, n6, hb _ w1]
  have tD : pn_ph St bt (2 * b1 + 1) = pn_ph S b (2 * S.1 w + 1) := by rw [ph_o, ph_o, p4, w3, hb _ h2]
  have tO : ∀ d, d < 4 * c → d ≠ 2 * v → d ≠ 2 * S.1 v + 1 → d ≠ 2 * w → d ≠ 2 * S.1 w + 1 → f (pn_ph S b d) = f d := by
    intro d hd a1 a2 a3 a4
    rw [← hf d (by omega)]
    by_cases e : d % 2 = 0
    · obtain ⟨u, rfl⟩ : ∃ u, d = 2 * u := ⟨d / 2, by omega⟩
      rw [ph_e, ph_e, n7 u (by omega) (by omega) (by omega), hb _ (hv u (by omega)).1]
    · obtain ⟨u, rfl⟩ : ∃ u, d = 2 * u + 1 := ⟨d / 2, by omega⟩
      rw [ph_o, ph_o, p7 u (by omega) (by omega) (by omega), hb _ (hv u (by omega)).2.1]
  have m0 : mt (2 * c) = 2 * c + 1 := by unfold mt; rw [if_pos (by omega)]
  have m1 : mt (2 * c + 1) = 2 * c := by unfold mt; rw [if_neg (by omega)]; omega
  have m2 : mt (2 * c + 2) = 2 * c + 3 := by unfold mt; rw [if_pos (by omega)]
  have m3 : mt (2 * c + 3) = 2 * c + 2 := by unfold mt; rw [if_neg (by omega)]; omega
  have fv := hf (2 * v) (by omega)
  have fv' := hf (2 * S.1 v + 1) (by omega)
  have fw := hf (2 * w) (by omega)
  have fw' := hf (2 * S.1 w + 1) (by omega)
  have fa := hf (2 * (2 * c)) (by omega)
  have fa' := hf (2 * (2 * c) + 1) (by omega)
  have fe := hf (2 * (2 * c + 2)) (by omega)
  have fe' := hf (2 * (2 * c + 2) + 1) (by omega)
  have fb := hf (2 * b1) (by omega)
  have fb' := hf (2 * b1 + 1) (by omega)
  have fd := hf (2 * b2) (by omega)
  have fd' := hf (2 * b2 + 1) (by omega)
  rw [tA] at fe
  rw [tB] at fa'
  rw [tC] at fd
  rw [tD] at fb'
  rw [ph_e, n1, m0] at fv
  rw [ph_o, p3, m2, B2] at fv'
  rw [ph_e, n4] at fw
  rw [ph_o, p6] at fw'
  rw [ph_e, n2, m2, B2] at fa
  rw [ph_o, p2, m0] at fe'
  rw [ph_e, n5] at fb
  rw [ph_o, p5] at fd'
  -- from what is known of f
  have fin : ∀ sx sy e1, (sx = 2 * v ∨ sx = 2 * v + 1) → (sy = 2 * w ∨ sy = 2 * w + 1) → (∀ d, (d = 2 * v ∨ d = 2 * S.1 v + 1 ∨ d = 2 * w ∨ d = 2 * S.1 w + 1) → f (pn_ph S b d) = f d ∨ (d = sdD S sx ∧ f (pn_ph S b d) = f (sdD S sy)) ∨ (d = sdD S sy ∧ f (pn_ph S b d) = f (sdD S sx))) → (∀ d, (d = 2 * (2 * c) ∨ d = 2 * (2 * c) + 1 ∨ d = 2 * (2 * c + 1) ∨ d = 2 * (2 * c + 1) + 1 ∨ d = 2 * (2 * c + 2) ∨ d = 2 * (2 * c + 2) + 1 ∨ d = 2 * (2 * c + 3) ∨ d = 2 * (2 * c + 3) + 1) → f d = f e1 ∨ f d = f (2 * v) ∨ f d = f (2 * S.1 v + 1) ∨ f d = f (2 * w) ∨ f d = f (2 * S.1 w + 1)) → ∃ sx sy e1, (sx = 2 * v ∨ sx = 2 * v + 1) ∧ (sy = 2 * w ∨ sy = 2 * w + 1) ∧ (∀ d, d < 4 * c → f (pn_ph S b d) = f d ∨ (d = sdD S sx ∧ f (pn_ph S b d) = f (sdD S sy)) ∨ (d = sdD S sy ∧ f (pn_ph S b d) = f (sdD S sx))) ∧ ∀ d, d < 4 * c + 8 → f d = f e1 ∨ ∃ d', d' < 4 * c ∧ f d' = f d := by
    intro sx sy e1 hx hy k1 k2
    refine ⟨sx, sy, e1, hx, hy, fun d hd => ?_, fun d hd => ?_⟩
    · by_cases e : d = 2 * v ∨ d = 2 * S.1 v + 1 ∨ d = 2 * w ∨ d = 2 * S.1 w + 1
      · exact k1 d e
      · exact Or.inl (tO d hd (fun h => e (Or.inl h)) (fun h => e (Or.inr (Or.inl h))) (fun h => e (Or.inr (Or.inr (Or.inl h)))) (fun h => e (Or.inr (Or.inr (Or.inr h)))))
    · by_cases e : d < 4 * c
      · exact Or.inr ⟨d, e, rfl⟩
      · rcases k2 d (by omega) with h9 | h9 | h9 | h9 | h9
        · exact Or.inl h9
        · exact Or.inr ⟨_, by omega, h9.symm⟩
        · exact Or.inr ⟨_, by omega, h9.symm⟩
        · exact Or.inr ⟨_, by omega, h9.symm⟩
        · exact Or.inr ⟨_, by omega, h9.symm⟩
  have s0 : sdD S (2 * v) = 2 * v := by unfold sdD; rw [if_pos (by omega)]
  have s1 : sdD S (2 * v + 1) = 2 * S.1 v + 1 := by unfold sdD; rw [if_neg (by omega), show (2 * v + 1) / 2 = v by omega]
  have s2 : sdD S (2 * w) = 2 * w := by unfold sdD; rw [if_pos (by omega)]
  have s3 : sdD S (2 * w + 1) = 2 * S.1 w + 1 := by unfold sdD; rw [if_neg (by omega), show (2 * w + 1) / 2 = w by omega]
  clear n1 n2 n3 n4 n5 n6 n7 p1 p2 p3 p4 p5 p6 p7 tA tB tC tD tO hb hf
  rcases hbb with ⟨e1, e2⟩ | ⟨e1, e2⟩ <;> subst e1 <;> subst e2 <;> cases hbt : bt (2 * c) <;> simp only [hbt, B1, B2, B3, m0, m1, m2, m3, Bool.not_true, Bool.not_false, Bool.false_eq_true, if_true, if_false, ite_true, ite_false] at fv fv' fw fw' fa fe' fb fd'
  · refine fin (2 * v) (2 * w + 1) (2 * (2 * c + 1)) (Or.inl rfl) (Or.inr rfl) (fun d hd => ?_) (fun d hd => ?_)
    · rw [s0, s3]
      rcases hd with e | e | e | e <;> subst e
      · exact Or.inr (Or.inl ⟨rfl, by omega⟩)
      · exact Or.inl (by omega)
      · exact Or.inl (by omega)
      · exact Or.inr (Or.inr ⟨rfl, by omega⟩)
    · rcases hd with e | e | e | e | e | e | e | e <;> subst e <;> omega
  · refine fin (2 * v + 1) (2 * w) (2 * (2 * c)) (Or.inr rfl) (Or.inl rfl) (fun d hd => ?_) (fun d hd => ?_)
    · rw [s1, s2]
      rcases hd with e | e | e | e <;> subst e
      · exact Or.inl (by omega)
      · exact Or.inr (Or.inl ⟨rfl, by omega⟩)
      · exact Or.inr (Or.inr ⟨rfl, by omega⟩)
      · exact Or.inl (by omega)
    · rcases hd with e | e | e | e | e | e | e | e <;> subst e <;> omega
  · refine fin (2 * v + 1) (2 * w + 1) (2 * (2 * c)) (Or.inr rfl) (Or.inr rfl) (fun d hd => ?_) (fun d hd => ?_)
    · rw [s1, s3]
      rcases hd with e | e | e | e <;> subst e
      · exact Or.inl (by omega)
      · exact Or.inr (Or.inl ⟨rfl, by omega⟩)
      · exact Or.inl (by omega)
      · exact Or.inr (Or.inr ⟨rfl, by omega⟩)
    · rcases hd with e | e | e | e | e | e | e | e <;> subst e <;> omega
  · refine fin (2 * v) (2 * w) (2 * (2 * c + 1) + 1) (Or.inl rfl) (Or.inl rfl) (fun d hd => ?_) (fun d hd => ?_)
    · rw [s0, s2]
      rcases hd with e | e | e | e <;> subst e
      · exact Or.inr (Or.inl ⟨rfl, by omega⟩)
      · exact Or.inl (by omega)
      · exact Or.inr (Or.inr ⟨rfl, by omega⟩)
      · exact Or.inl (by omega)
    · rcases hd with e | e | e | e | e | e | e | e <;> subst e <;> omega
end PU
end
section
/-! 99zzzzzzzzzzzl.xmeet -/
/-! the filter of moves of kind 3 takes nothing away -/
section ME
variable {c v w a r r' b1 b2 : Nat} {S St : ow_NP} {R Q : ow_NT} {o u ch : Nat}
theorem dd1 (k : Nat) : (np_putBehind (np_putBehind S a r) r r').1 k = if k = r' then S.1 a else if k = r then r' else if k = a then r else S.1 k := by
  unfold np_putBehind
  rw [nl_1, nl_1, nl_1, if_pos rfl]
  by_cases e1 : k = r'
  · rw [if_pos e1, if_pos e1]
  · rw [if_neg e1, if_neg e1]
    by_cases e2 : k = r
    · rw [nl_1, if_pos e2, if_pos e2]
    · rw [nl_1, if_neg e2, if_neg e2, nl_1, if_neg e2, nl_1]
theorem dd2 (k : Nat) : (np_putBehind (np_putBehind S a r) r r').2 k = if k = S.1 a then r' else if k = r' then r else if k = r then a else S.2 k := by
  unfold np_putBehind
  rw [nl_2, nl_2, nl_1, if_pos rfl]
  by_cases e1 : k = S.1 a
  · rw [if_pos e1, if_pos e1]
  · rw [if_neg e1, if_neg e1]
    by_cases e2 : k = r'
    · rw [if_pos e2, if_pos e2]
    · rw [if_neg e2, if_neg e2, nl_2, if_neg e1, nl_2]
theorem pu_of (hv : vn c S) (hvw : v ≠ w) (h1 : v < 2 * c) (h2 : w < 2 * c) (hbb : b1 = 2 * c + 1 ∧ b2 = 2 * c + 3 ∨ b1 = 2 * c + 3 ∧ b2 = 2 * c + 1) {S' : ow_NP} (hS : ∀ k, k < 2 * c → S'.1 k = S.1 k ∧ S'.2 k = S.2 k) : puN c v w b1 b2 S (np_putBehind (np_putBehind (np_putBehind (np_putBehind S' v (2 * c)) (2 * c) (2 * c + 2)) w b1) b1 b2) := by
  obtain ⟨v1, -, -, -⟩ := hv v h1
  obtain ⟨w1, -, -, -⟩ := hv w h2
  have hne : S.1 v ≠ S.1 w := fun e => hvw (vn_inj hv h1 h2 e)
  have cv := (hS v h1).1
  have cw := (hS w h2).1
  have eD : (np_putBehind (np_putBehind S' v (2 * c)) (2 * c) (2 * c + 2)).1 w = S.1 w := by
    rw [dd1]
    repeat' split
    all_goals omega
  have f1 : ∀ k, (np_putBehind (np_putBehind (np_putBehind (np_putBehind S' v (2 * c)) (2 * c) (2 * c + 2)) w b1) b1 b2).1 k = if k = b2 then S.1 w else if k = b1 then b2 else if k = w then b1 else if k = 2 * c + 2 then S.1 v else if k = 2 * c then 2 * c + 2 else if k = v then 2 * c else S'.1 k := by
    intro k
    rw [dd1, eD, dd1, cv]
  have f2 : ∀ k, (np_putBehind (np_putBehind (np_putBehind (np_putBehind S' v (2 * c)) (2 * c) (2 * c + 2)) w b1) b1 b2).2 k = if k = S.1 w then b2 else if k = b2 then b1 else if k = b1 then w else if k = S.1 v then 2 * c + 2 else if k = 2 * c + 2 then 2 * c else if k = 2 * c then v else S'.2 k := by
    intro k
    rw [dd2, eD, dd2, cv]
  refine ⟨?_, ?_, ?_, ?_, ?_, ?_, fun x hx n1 n2 => ?_, ?_, ?_, ?_, ?_, ?_, ?_, fun x hx n1 n2 => ?_⟩
  · rw [f1]; repeat' split
    all_goals omega
  · rw [f1]; repeat' split
    all_goals omega
  · rw [f1]; repeat' split
    all_goals omega
  · rw [f1]; repeat' split
    all_goals omega
  · rw [f1]; repeat' split
    all_goals omega
  · rw [f1]; repeat' split
    all_goals omega
  · have := (hS x hx).1
    rw [f1]; repeat' split
    all_goals omega
  · rw [f2]; repeat' split
    all_goals omega
  · rw [f2]; repeat' split
    all_goals omega
  · rw [f2]; repeat' split
    all_goals omega
  · rw [f2]; repeat' split
    all_goals omega
  · rw [f2]; repeat' split
    all_goals omega
  · rw [f2]; repeat' split
    all_goals omega
  · have := (hS x hx).2
    rw [f2]; repeat' split
    all_goals omega
theorem pu_vn (hv : vn c S) (hvw : v ≠ w) (h1 : v < 2 * c) (h2 : w < 2 * c) (hbb : b1 = 2 * c + 1 ∧ b2 = 2 * c + 3 ∨ b1 = 2 * c + 3 ∧ b2 = 2 * c + 1) (hN : puN c v w b1 b2 S St) : vn (c + 2) St := by
  obtain ⟨n1, n2, n3, n4, n5, n6, n7, p1, p2, p3, p4, p5, p6, p7⟩ := hN
  obtain ⟨v1, v2, v3, v4⟩ := hv v h1
  obtain ⟨w1, w2, w3, w4⟩ := hv w h2
  have hne : S.1 v ≠ S.1 w := fun e => hvw (vn_inj hv h1 h2 e)
  intro k hk
  by_cases ho : k < 2 * c
  · obtain ⟨k1, k2, k3, k4⟩ := hv k ho
    have A : St.1 k < 2 * (c + 2) ∧ St.2 (St.1 k) = k := by
      by_cases e1 : k = v
      · rw [e1, n1, p1]
        omega
      · by_cases e2 : k = w
        · rw [e2, n4, p4]
          omega
        · rw [n7 k ho e1 e2, p7 _ k1 (fun e => e1 (vn_inj hv ho h1 e)) (fun e => e2 (vn_inj hv ho h2 e)), k3]
          omega
    have B : St.2 k < 2 * (c + 2) ∧ St.1 (St.2 k) = k := by
      by_cases e1 : k = S.1 v
      · rw [e1, p3, n3]
        omega
      · by_cases e2 : k = S.1 w
        · rw [e2, p6, n6]
          omega
        · rw [p7 k ho e1 e2, n7 _ k2 (fun e => e1 (by rw [← e, k4])) (fun e => e2 (by rw [← e, k4])), k4]
          omega
    exact ⟨A.1, B.1, A.2, B.2⟩
  · have hb4 : k = 2 * c ∨ k = 2 * c + 2 ∨ k = b1 ∨ k = b2 := by omega
    rcases hb4 with e | e | e | e
    · rw [e, n2, p1, p2, n1]
      omega
    · rw [e, n3, p2, p3, n2]
      omega
    · rw [e, n5, p4, p5, n4]
      omega
    · rw [e, n6, p5, p6, n5]
      omega
theorem pu_rch (hv : vn c S) (h1 : v < 2 * c) (h2 : w < 2 * c) (hvw : rch c S v w) (hbb : b1 = 2 * c + 1 ∧ b2 = 2 * c + 3 ∨ b1 = 2 * c + 3 ∧ b2 = 2 * c + 1) (hN : puN c v w b1 b2 S St) {x : Nat} (hr : r < 2 * (c + 2)) (h : rch (c + 2) St r x) : x < 2 * (c + 2) ∧ rch c S (if r < 2 * c then r else v) (if x < 2 * c then x else v) := by
  obtain ⟨n1, n2, n3, n4, n5, n6, n7, -⟩ := hN
  have hwv := rch_sy hv h1 hvw
  refine h (fun x => x < 2 * (c + 2) ∧ rch c S (if r < 2 * c then r else v) (if x < 2 * c then x else v)) ⟨hr, rch_rf _ _ _⟩ ?_ ?_
  · rintro j hj ⟨-, hD⟩
    by_cases ho : j < 2 * c
    · rw [if_pos ho] at hD
      by_cases e1 : j = v
      · rw [e1, n1]
        refine ⟨by omega, ?_⟩
        rw [if_neg (show ¬ 2 * c < 2 * c by omega)]
        rw [e1] at hD
        exact hD
      · by_cases e2 : j = w
        · rw [e2, n4]
          refine ⟨by omega, ?_⟩
          rw [if_neg (show ¬ b1 < 2 * c by omega)]
          rw [e2] at hD
          exact rch_tr hD hwv
        · rw [n7 j ho e1 e2]
          have := (hv j ho).1
          refine ⟨by omega, ?_⟩
          rw [if_pos this]
          exact rch_n hD ho
    · rw [if_neg ho] at hD
      have hv1 := (hv v h1).1
      have hw1 := (hv w h2).1
      have hb4 : j = 2 * c ∨ j = 2 * c + 2 ∨ j = b1 ∨ j = b2 := by omega
      rcases hb4 with e | e | e | e
      · rw [e, n2]
        refine ⟨by omega, ?_⟩
        rw [if_neg (show ¬ 2 * c + 2 < 2 * c by omega)]
        exact hD
      · rw [e, n3]
        refine ⟨by omega, ?_⟩
        rw [if_pos hv1]
        exact rch_n hD h1
      · rw [e, n5]
        refine ⟨by omega, ?_⟩
        rw [if_neg (show ¬ b2 < 2 * c by omega)]
        exact hD
      · rw [e, n6]
        refine ⟨by omega, ?_⟩
        rw [if_pos hw1]
        exact rch_n (rch_tr hD hvw) h2
  · rintro j hj ⟨-, hD⟩
    have hm : mt j < 2 * (c + 2) ∧ (mt j < 2 * c ↔ j < 2 * c) := by
      unfold mt
      split <;> omega
    refine ⟨hm.1, ?_⟩
    by_cases ho : j < 2 * c
    · rw [if_pos ho] at hD
      rw [if_pos (hm.2.mpr ho)]
      exact rch_m hD ho
    · rw [if_neg ho] at hD
      rw [if_neg (fun h9 => ho (hm.2.mp h9))]
      exact hD
theorem m3_meet (hv : vn R.1 R.2.2.1) (hc12 : R.1 ≤ 12) (hpl : nt_plane R = true) : mM3 R := by
  intro F P Q o u ch hmk hQ hc hch ho hu hT
  obtain ⟨mP, mF⟩ := hmk rfl
  unfold mv_meet
  by_cases eP : P o = P u
  · rw [decide_eq_false (fun h => h eP), Bool.false_or]
    by_cases eou : o = u
    · rw [eou, decide_eq_true rfl, Bool.true_or]
    · have hr : rch R.1 R.2.2.1 o u := (parts_iff hv hc12 ho hu).mp (by rw [← mP o ho, ← mP u hu]; exact eP)
      obtain ⟨b1, hb1⟩ : ∃ b1, b1 = if ch / 2 % 2 = 0 then 2 * R.1 + 1 else 2 * R.1 + 3 := ⟨_, rfl⟩
      obtain ⟨b2, hb2⟩ : ∃ b2, b2 = if ch / 2 % 2 = 0 then 2 * R.1 + 3 else 2 * R.1 + 1 := ⟨_, rfl⟩
      have hbb : b1 = 2 * R.1 + 1 ∧ b2 = 2 * R.1 + 3 ∨ b1 = 2 * R.1 + 3 ∧ b2 = 2 * R.1 + 1 := by
        by_cases e : ch / 2 % 2 = 0
        · rw [if_pos e] at hb1 hb2
          exact Or.inl ⟨hb1, hb2⟩
        · rw [if_neg e] at hb1 hb2
          exact Or.inr ⟨hb1, hb2⟩
      have key : ∀ {β : Type} (f g : Nat → β) (n k : Nat), k < n → va_cpy f g 0 0 n k = f k := fun f g n k hk => by
        rw [pk_cpy_in (Nat.zero_le k) (by omega), Nat.zero_add, Nat.sub_zero]
      have eS : (mv_t3b Q R o u ch).2.2.1 = np_putBehind (np_putBehind (np_putBehind (np_putBehind (nt_copy Q R).2.2.1 o (2 * R.1)) (2 * R.1) (2 * R.1 + 2)) u b1) b1 b2 := by
        have e1 : mv_af R o = some o := if_neg (by omega)
        have e2 : mv_au R u = some u := if_pos hu
        unfold mv_t3b mv_t3a
        rw [e1, e2, ← hb1, ← hb2]
        rfl
      have hN := pu_of hv eou ho hu hbb (S' := (nt_copy Q R).2.2.1) (fun k hk => ⟨key _ _ _ _ hk, key _ _ _ _ hk⟩)
      rw [← eS] at hN
      have hvT : vn (mv_t3b Q R o u ch).1 (mv_t3b Q R o u ch).2.2.1 := by
        rw [t3b_1]
        exact pu_vn hv eou ho hu hbb hN
      have hp := (plane_iff hvT (by rw [t3b_1]; exact hc)).mp hT
      rw [t3b_1] at hp
      obtain ⟨Rr, pP, f, X, f1, f2, f3, f4⟩ := hp
      have hG : ∀ x, x < R.1 → (mv_t3b Q R o u ch).2.2.2 x = R.2.2.2 x := by
        intro x hx
        rw [t3b_G, su_at, if_neg (by omega), su_at, if_neg (by omega), cpy_G hx]
      have hGc : (mv_t3b Q R o u ch).2.2.2 R.1 = mv_s1 ch := by
        rw [t3b_G, su_at, if_neg (by omega), su_at, if_pos rfl]
      have hGd : (mv_t3b Q R o u ch).2.2.2 (R.1 + 1) = mv_s2 ch := by
        rw [t3b_G, su_at, if_pos rfl]
      have hbt : ∀ x, x < 2 * R.1 → stG (mv_t3b Q R o u ch).2.2.2 x = stG R.2.2.2 x := by
        intro x hx
        unfold stG
        rw [hG (x / 2) (by omega)]
      have s12 : decide (0 < mv_s2 ch) = !decide (0 < mv_s1 ch) := by
        unfold mv_s1 mv_s2
        split <;> decide
      have hB : stG (mv_t3b Q R o u ch).2.2.2 (2 * R.1 + 1) = (!stG (mv_t3b Q R o u ch).2.2.2 (2 * R.1)) ∧ stG (mv_t3b Q R o u ch).2.2.2 (2 * R.1 + 2) = (!stG (mv_t3b Q R o u ch).2.2.2 (2 * R.1)) ∧ stG (mv_t3b Q R o u ch).2.2.2 (2 * R.1 + 3) = stG (mv_t3b Q R o u ch).2.2.2 (2 * R.1) := by
        unfold stG
        rw [show (2 * R.1 + 1) / 2 = R.1 by omega, show 2 * R.1 / 2 = R.1 by omega, show (2 * R.1 + 2) / 2 = R.1 + 1 by omega, show (2 * R.1 + 3) / 2 = R.1 + 1 by omega, hGc, hGd, s12, decide_eq_false (show ¬ (2 * R.1 + 1) % 2 = 0 by omega), decide_eq_true (show 2 * R.1 % 2 = 0 by omega), decide_eq_true (show (2 * R.1 + 2) % 2 = 0 by omega), decide_eq_false (show ¬ (2 * R.1 + 3) % 2 = 0 by omega)]
        cases decide (0 < mv_s1 ch) <;> exact ⟨rfl, rfl, rfl⟩
      obtain ⟨sx, sy, e1, hx, hy, k1, k2⟩ := pu_main hv eou ho hu hbt hB hbb hN (fun d hd => f1 d (by omega))
      have sxl : sx < 4 * R.1 := by omega
      have syl : sy < 4 * R.1 := by omega
      -- the faces of the two arcs
      have meet : F sx = F sy := by
        rcases Classical.em (F sx = F sy) with h9 | h9
        · exact h9
        · exfalso
          obtain ⟨M, hM⟩ : ∃ M, M = (np_faces R.1 R.2.2.1 R.2.2.2).1 := ⟨_, rfl⟩
          rw [mF sx sxl, mF sy syl, ← hM] at h9
          have hMC : ∀ k, k < 4 * R.1 → M (fc_on R.2.2.1 R.2.2.2 k) = M k := by
            have := mr_out_C (N := fc_on R.2.2.1 R.2.2.2) (vs := 4 * R.1) (fun a ha => fc_on_vn hv R.2.2.2 ha) (fun a b ha hb e => fc_on_inj hv ha hb e) (by omega) (F := fun _ => -1) (fun _ _ => rfl) (4 * R.1) (Nat.le_refl _)
            rw [hM]
            exact this
          obtain ⟨g, Y, g1, g2, g3, g4⟩ := pu_abs (k := R.1 + 2 * Rr.length) (P := fun d => decide (M (dSd R.2.2.1 d) = M sx)) (fun d hd => by have := f2 d hd; omega) f3 (by omega) (sdD_lt hv sxl) (sdD_lt hv syl) k2 (fun d hd => pn_ph_lt hv hd) k1 (fun d hd => by
            have hs := dSd_lt hv hd
            have e2 : pn_ph R.2.2.1 (stG R.2.2.2) d = sdD R.2.2.1 (fc_on R.2.2.1 R.2.2.2 (dSd R.2.2.1 d)) := by rw [sd_on hv hs, sd_ds hv hd]
            show decide (M (dSd R.2.2.1 (pn_ph R.2.2.1 (stG R.2.2.2) d)) = M sx) = decide (M (dSd R.2.2.1 d) = M sx)
            rw [e2, ds_sd hv (fc_on_vn hv _ hs), hMC _ hs]) (by
              show decide (M (dSd R.2.2.1 (sdD R.2.2.1 sx)) = M sx) = true
              rw [ds_sd hv sxl]
              exact decide_eq_true rfl) (by
              show decide (M (dSd R.2.2.1 (sdD R.2.2.1 sy)) = M sx) = false
              rw [ds_sd hv syl]
              exact decide_eq_false (fun e => h9 e.symm))
          have c1 := faces_le (G := R.2.2.2) hv hc12 (k := R.1 + 2 * Rr.length + 1) ⟨g, Y, g1, g2, g3, g4⟩
          unfold nt_plane at hpl
          have c2 := of_decide_eq_true hpl
          have c3 : (np_parts R.1 R.2.2.1.1).2 ≤ (Rr.map (fun r => if r < 2 * R.1 then r else o)).length := parts_ub hv hc12 (fun x hx9 => by
            obtain ⟨r, r1, r2, r3⟩ := pP x (by omega)
            have := (pu_rch hv ho hu hr hbb hN r2 r3).2
            rw [if_pos hx9] at this
            refine ⟨_, List.mem_map.mpr ⟨r, r1, rfl⟩, ?_, this⟩
            split <;> omega)
          rw [List.length_map] at c3
          omega
      have fin : (decide (F (2 * o) = F (2 * u)) || (decide (F (2 * o) = F (2 * u + 1)) || (decide (F (2 * o + 1) = F (2 * u)) || decide (F (2 * o + 1) = F (2 * u + 1))))) = true := by
        rw [Bool.or_eq_true, Bool.or_eq_true, Bool.or_eq_true, decide_eq_true_iff, decide_eq_true_iff, decide_eq_true_iff, decide_eq_true_iff]
        rcases hx with e | e <;> rcases hy with e2 | e2 <;> rw [e, e2] at meet
        · exact Or.inl meet
        · exact Or.inr (Or.inl meet)
        · exact Or.inr (Or.inr (Or.inl meet))
        · exact Or.inr (Or.inr (Or.inr meet))
      exact fin
  · rw [decide_eq_true eP, Bool.true_or]
end ME
theorem mb_all {A : rn_L} {sg : Nat → Bool} {R : ow_NT} {kd : Nat} (hV : isoV A sg idN R) (hp : pm1 R) (hA : A.length ≤ 6) (hpl : nt_plane R = true) (hk : kd < 5) : mBi kd A sg R := by
  match kd, hk with
  | 0, _ => exact mb_0 hV
  | 1, _ => exact mb_1 hV hA
  | 2, _ => exact mb_2 hV hp
  | 3, _ => exact mb_3 hV hp (m3_meet (isoV_vn hV) hV.1.2.2.1 hpl)
  | 4, _ => exact mb_4 hV hp
end
section
/-! 99zzzzzzzzzzzm.xjoin -/
/-! the moves of both sides: rows and codes, in order -/
def crP (C : cdT) (r : List Nat) : Prop := ∃ A sg c, okL A c ∧ C = clC sg A ∧ r = tk sg A ∧ A ≠ [] ∧ plnA A sg
theorem crP_R {C : cdT} {r : List Nat} (h : crP C r) : crR C r := by
  obtain ⟨A, sg, c, h1, h2, h3, -⟩ := h
  exact ⟨A, sg, c, h1, h2, h3⟩
theorem srt_join : ∀ (L2 : List cdT) (L1 : List (List Nat)), L2.Pairwise (fun a b => cmpC a b < 0) → L1.Pairwise (fun a b => lsr a b = true) → (∀ C, C ∈ L2 → ∃ r, r ∈ L1 ∧ crP C r) → (∀ r, r ∈ L1 → ∃ C, C ∈ L2 ∧ crP C r) → L2.length = L1.length ∧ ∀ (k : Nat) C r, L2[k]? = some C → L1[k]? = some r → crP C r
  | [], [], _, _, _, _ => ⟨rfl, fun k C r h => by rw [List.getElem?_nil] at h; cases h⟩
  | [], r :: L1, _, _, _, h => by
    obtain ⟨C, hC, -⟩ := h r List.mem_cons_self
    cases hC
  | C :: L2, [], _, _, h, _ => by
    obtain ⟨r, hr, -⟩ := h C List.mem_cons_self
    cases hr
  | C :: L2, r :: L1, p2, p1, h21, h12 => by
    obtain ⟨q2, p2'⟩ := List.pairwise_cons.mp p2
    obtain ⟨q1, p1'⟩ := List.pairwise_cons.mp p1
    have hCr : crP C r := by
      obtain ⟨r0, hr0, e0⟩ := h21 C List.mem_cons_self
      obtain ⟨C0, hC0, f0⟩ := h12 r List.mem_cons_self
      rcases List.mem_cons.mp hr0 with e | hr0
      · rw [← e]
        exact e0
      · rcases List.mem_cons.mp hC0 with e | hC0
        · rw [← e]
          exact f0
        · have h1 := q1 r0 hr0
          have h2 := (crR_lt (crP_R e0) (crP_R f0)).mpr (q2 C0 hC0)
          have h3 := lsr_tr h1 h2
          rw [lsr_irr] at h3
          cases h3
    obtain ⟨k1, k2⟩ := srt_join L2 L1 p2' p1' (fun C' hC' => by
      obtain ⟨r', hr', e'⟩ := h21 C' (List.mem_cons_of_mem _ hC')
      rcases List.mem_cons.mp hr' with e | hr'
      · rw [e] at e'
        have := crR_c (crP_R hCr) (crP_R e')
        have h9 := q2 C' hC'
        rw [← this, cmpC_rf] at h9
        omega
      · exact ⟨r', hr', e'⟩) (fun r' hr' => by
      obtain ⟨C', hC', e'⟩ := h12 r' (List.mem_cons_of_mem _ hr')
      rcases List.mem_cons.mp hC' with e | hC'
      · rw [e] at e'
        have := crR_r (crP_R hCr) (crP_R e')
        have h9 := q1 r' hr'
        rw [← this, lsr_irr] at h9
        cases h9
      · exact ⟨C', hC', e'⟩)
    refine ⟨by rw [List.length_cons, List.length_cons, k1], fun k D s hD hs => ?_⟩
    cases k with
    | zero =>
      cases hD
      cases hs
      exact hCr
    | succ k => exact k2 k D s hD hs
section XJ
variable {A : rn_L} {sg : Nat → Bool} {R : ow_NT} {kd : Nat} {Ms : List (List Nat)} {X : List cdT} {os : List Nat}
theorem OM_len {A' : rn_L} {sg' : Nat → Bool} {c : Nat} (h : OM A sg c kd A' sg') : A'.length = A.length := by
  have wo : ∀ x y, (woA x y A).length = A.length := fun x y => List.length_map ..
  match kd, h with
  | 0, h =>
    obtain ⟨-, v, -, -, rfl⟩ := h
    exact wo _ _
  | 1, h =>
    obtain ⟨-, g, k, -, -, rfl, -⟩ := h
    unfold bldA
    rw [List.length_map, List.length_range]
  | 2, h =>
    obtain ⟨-, v, -, -, rfl⟩ := h
    exact wo _ _
  | 3, h =>
    obtain ⟨-, g, h, k, -, -, -, rfl, -⟩ := h
    exact t3_len
  | _ + 4, h =>
    obtain ⟨s, -, -, -, -, -, rfl⟩ := h
    unfold t4A rsh
    rw [List.length_map, List.length_range]
theorem at_in (hl : X.length = os.length) (ho : ∀ (j s : Nat), os[j]? = some s → s < X.length) {k : Nat} (hk : k < os.length) : atC X os k ∈ X := by
  have h1 := ho k _ (List.getElem?_eq_getElem hk)
  unfold atC
  rw [List.getD_eq_getElem?_getD (l := os), List.getElem?_eq_getElem hk]
  show X.getD os[k] (0, []) ∈ X
  rw [List.getD_eq_getElem?_getD, List.getElem?_eq_getElem h1]
  exact List.getElem_mem h1
theorem at_sur (hl : X.length = os.length) (ho : ∀ (j s : Nat), os[j]? = some s → s < X.length) (hs : sts X os) {C : cdT} (hC : C ∈ X) : ∃ k, k < os.length ∧ atC X os k = C := by
  obtain ⟨i, hi, e⟩ := List.getElem_of_mem hC
  have nd : os.Nodup := by
    rw [List.nodup_iff_pairwise_ne, List.pairwise_iff_getElem]
    intro a b ha hb hab e9
    have h1 := hs a b hab hb
    have : atC X os a = atC X os b := by
      unfold atC
      rw [List.getD_eq_getElem?_getD (l := os), List.getD_eq_getElem?_getD (l := os), List.getElem?_eq_getElem ha, List.getElem?_eq_getElem hb, e9]
    rw [this, cmpC_rf] at h1
    omega
  have him : i ∈ os := by
    rcases Classical.em (i ∈ os) with h9 | h9
    · exact h9
    · exfalso
      have := nodup_le (i :: os) (List.range X.length) (List.nodup_cons.mpr ⟨h9, nd⟩) (fun a ha => by
        rw [List.mem_range]
        rcases List.mem_cons.mp ha with e | ha
        · rw [e]
          exact hi
        · obtain ⟨j, hj, e⟩ := List.getElem_of_mem ha
          exact ho j a (by rw [List.getElem?_eq_getElem hj, e]))
      rw [List.length_cons, List.length_range] at this
      omega
  obtain ⟨k, hk, e2⟩ := List.getElem_of_mem him
  refine ⟨k, hk, ?_⟩
  unfold atC
  rw [List.getD_eq_getElem?_getD (l := os), List.getElem?_eq_getElem hk]
  show X.getD os[k] (0, []) = C
  rw [e2, List.getD_eq_getElem?_getD, List.getElem?_eq_getElem hi]
  exact e
theorem cnt_le : ∀ c, c < 13 → ∀ kd, kd < 5 → mv_cnt c kd ≤ 1848 := by decide
theorem mv_join (hV : isoV A sg idN R) (hR : nv R) (hp : pm1 R) (hpl : nt_plane R = true) (h6 : A.length ≤ 6) (hne : A ≠ []) (hk : kd < 5) (hMs : Ms.Pairwise (fun a b => lsr a b = true)) (m1 : ∀ r, r ∈ Ms → ∃ A' sg', OM A sg R.1 kd A' sg' ∧ nfR A' sg' r) (m2 : ∀ A' sg', OM A sg R.1 kd A' sg' → ∃ r, r ∈ Ms ∧ nfR A' sg' r) (hl : X.length = os.length) (ho : ∀ (j s : Nat), os[j]? = some s → s < X.length) (hs : sts X os) (x1 : ∀ C, C ∈ X → ∃ j, j < mv_cnt R.1 kd ∧ mvD kd R j C) (x2 : ∀ j, j < mv_cnt R.1 kd → mvN kd R j ∨ ∃ C, mvD kd R j C ∧ (C ∈ X ∨ os.length = 1848)) : os.length = Ms.length ∧ ∀ (k : Nat) r, Ms[k]? = some r → crP (atC X os k) r := by
  have mb := mb_all hV hp h6 hpl hk
  -- a code and a row of one net
  have join : ∀ {A' : rn_L} {sg' : Nat → Bool} {f : Nat → Nat} {F P : Nat → Int32} {Q : ow_NT} {j : Nat} {Ds : List cdT} {qs : List Nat} {r : List Nat}, OM A sg R.1 kd A' sg' → j < mv_cnt R.1 kd → mv_mk kd R F P → ow_b24 Q.2.2.1 → mv_B kd j Q R F P = true → isoV A' sg' f (mv_T kd j Q R F P) → cpZ (mv_T kd j Q R F P) (np_parts (mv_T kd j Q R F P).1 (mv_T kd j Q R F P).2.2.1.1).2 Ds qs → nfR A' sg' r → crP (enC (mv_T kd j Q R F P) Ds qs) r := by
    rintro A' sg' f F P Q j Ds qs r hO hj hmk hQ hB hi hZ ⟨m, Pp, hmk9, rfl⟩
    have hl9 := OM_len hO
    have hnv := (mv_nv hR hk F P Q j hmk hQ hj).2 hB
    obtain ⟨A2, sg2, e1, e2, e3, e4, f', e5⟩ := enc_iso (isoS_iff.mp hi.1) (by omega) hnv hmk9 hZ
    have hpp := mv_pl hR hp hpl hk hQ hj hB
    refine ⟨A2, sg2, _, e2, e3, e1, fun e => ?_, plnA_of e5 hpp.2 hpp.1⟩
    rw [e] at e4
    have : A.length ≠ 0 := fun e9 => hne (List.eq_nil_of_length_eq_zero e9)
    have e4 : 0 = _ := e4
    omega
  have c2r : ∀ {j : Nat} {C : cdT}, j < mv_cnt R.1 kd → mvD kd R j C → ∃ A' sg', OM A sg R.1 kd A' sg' ∧ ∀ C', mvD kd R j C' → ∀ r, nfR A' sg' r → crP C' r := by
    rintro j C hj ⟨F, P, Q, Ds, qs, d1, d2, d3, d4, rfl⟩
    obtain ⟨A', sg', hO, hall⟩ := mb.1 j hj ⟨F, P, Q, d1, d2, d3⟩
    refine ⟨A', sg', hO, ?_⟩
    rintro C' ⟨F', P', Q', Ds', qs', d1', d2', d3', d4', rfl⟩ r hr
    obtain ⟨-, f, hf⟩ := hall F' P' Q' d1' d2'
    exact join hO hj d1' d2' d3' hf d4' hr
  have det : ∀ {j : Nat} {C C' : cdT}, j < mv_cnt R.1 kd → mvD kd R j C → mvD kd R j C' → C = C' := by
    intro j C C' hj h1 h2
    obtain ⟨A', sg', hO, hall⟩ := c2r hj h1
    obtain ⟨r, -, hr⟩ := m2 A' sg' hO
    exact crR_c (crP_R (hall C h1 r hr)) (crP_R (hall C' h2 r hr))
  -- a full table holds all
  have full : ∀ {j : Nat} {C : cdT}, j < mv_cnt R.1 kd → mvD kd R j C → os.length = 1848 → C ∈ X := by
    intro j C hj hD h9
    have hch : ∀ n, n ≤ os.length → ∃ Js : List Nat, Js.length = n ∧ Js.Nodup ∧ (∀ i, i ∈ Js → i < mv_cnt R.1 kd ∧ ∃ k, k < n ∧ mvD kd R i (atC X os k)) := by
      intro n
      induction n with
      | zero => exact fun _ => ⟨[], rfl, List.nodup_nil, fun i hi => absurd hi List.not_mem_nil⟩
      | succ n ih =>
        intro hn
        obtain ⟨Js, j1, j2, j3⟩ := ih (by omega)
        obtain ⟨i, i1, i2⟩ := x1 _ (at_in hl ho (k := n) (by omega))
        refine ⟨i :: Js, by rw [List.length_cons, j1], List.nodup_cons.mpr ⟨fun h8 => ?_, j2⟩, fun a ha => ?_⟩
        · obtain ⟨-, k, k1, k2⟩ := j3 i h8
          have e := det i1 k2 i2
          have h7 := hs k n k1 (by omega)
          rw [e, cmpC_rf] at h7
          omega
        · rcases List.mem_cons.mp ha with e | ha
          · rw [e]
            exact ⟨i1, n, by omega, i2⟩
          · obtain ⟨a1, k, k1, k2⟩ := j3 a ha
            exact ⟨a1, k, by omega, k2⟩
    obtain ⟨Js, j1, j2, j3⟩ := hch _ (Nat.le_refl _)
    have him : j ∈ Js := by
      rcases Classical.em (j ∈ Js) with h8 | h8
      · exact h8
      · exfalso
        have h7 := nodup_le (j :: Js) (List.range (mv_cnt R.1 kd)) (List.nodup_cons.mpr ⟨h8, j2⟩) (fun a ha => by
          rw [List.mem_range]
          rcases List.mem_cons.mp ha with e | ha
          · rw [e]
            exact hj
          · exact (j3 a ha).1)
        rw [List.length_cons, List.length_range, j1, h9] at h7
        have := cnt_le R.1 (by have := hR.2.1; omega) kd hk
        omega
    obtain ⟨-, k, k1, k2⟩ := j3 j him
    rw [det hj hD k2]
    exact at_in hl ho k1
  have a1 : ∀ C, C ∈ X → ∃ r, r ∈ Ms ∧ crP C r := by
    intro C hC
    obtain ⟨j, hj, hD⟩ := x1 C hC
    obtain ⟨A', sg', hO, hall⟩ := c2r hj hD
    obtain ⟨r, r1, r2⟩ := m2 A' sg' hO
    exact ⟨r, r1, hall C hD r r2⟩
  have a2 : ∀ r, r ∈ Ms → ∃ C, C ∈ X ∧ crP C r := by
    intro r hr
    obtain ⟨A', sg', hO, hn⟩ := m1 r hr
    obtain ⟨j, hj, hall⟩ := mb.2 A' sg' hO
    rcases x2 j hj with ⟨F, P, Q, d1, d2, d3⟩ | ⟨C, hD, hx⟩
    · have := (hall F P Q d1 d2).1
      rw [d3] at this
      cases this
    · have hCX : C ∈ X := hx.elim id (fun h9 => full hj hD h9)
      obtain ⟨F, P, Q, Ds, qs, d1, d2, d3, d4, rfl⟩ := hD
      obtain ⟨-, f, hf⟩ := hall F P Q d1 d2
      exact ⟨_, hCX, join hO hj d1 d2 d3 hf d4 hn⟩
  obtain ⟨L2, hL2⟩ : ∃ L2, L2 = (List.range os.length).map (atC X os) := ⟨_, rfl⟩
  have l2 : L2.length = os.length := by rw [hL2, List.length_map, List.length_range]
  have g2 : ∀ k, k < os.length → L2[k]? = some (atC X os k) := fun k hk => by
    rw [hL2, List.getElem?_map, List.getElem?_range hk]
    rfl
  have mem2 : ∀ C, C ∈ L2 ↔ C ∈ X := by
    intro C
    rw [hL2, List.mem_map]
    constructor
    · rintro ⟨k, hk, rfl⟩
      exact at_in hl ho (List.mem_range.mp hk)
    · intro hC
      obtain ⟨k, hk, e⟩ := at_sur hl ho hs hC
      exact ⟨k, List.mem_range.mpr hk, e⟩
  have p2 : L2.Pairwise (fun a b => cmpC a b < 0) := by
    rw [List.pairwise_iff_getElem]
    intro i j hi hj hij
    have e1 := g2 i (by omega)
    have e2 := g2 j (by omega)
    rw [List.getElem?_eq_getElem hi] at e1
    rw [List.getElem?_eq_getElem hj] at e2
    rw [Option.some.inj e1, Option.some.inj e2]
    exact hs i j hij (by omega)
  obtain ⟨k1, k2⟩ := srt_join L2 Ms p2 hMs (fun C hC => a1 C ((mem2 C).mp hC)) (fun r hr => by
    obtain ⟨C, c1, c3⟩ := a2 r hr
    exact ⟨C, (mem2 C).mpr c1, c3⟩)
  refine ⟨by omega, fun k r hr => ?_⟩
  have := (List.getElem?_eq_some_iff.mp hr).1
  exact k2 k _ r (g2 k (by omega)) hr
/-- the lists that both sides keep -/
theorem mv_list (h : ∀ (k : Nat) r, Ms[k]? = some r → crP (atC X os k) r) : ∃ Ns : List (rn_L × (Nat → Bool)), Ns.length = Ms.length ∧ ∀ (k : Nat) A' sg', Ns[k]? = some (A', sg') → Ms[k]? = some (tk sg' A') ∧ atC X os k = clC sg' A' ∧ A' ≠ [] ∧ plnA A' sg' ∧ ∃ c, okL A' c := by
  have key : ∀ n, n ≤ Ms.length → ∃ Ns : List (rn_L × (Nat → Bool)), Ns.length = n ∧ ∀ (k : Nat) A' sg', Ns[k]? = some (A', sg') → Ms[k]? = some (tk sg' A') ∧ atC X os k = clC sg' A' ∧ A' ≠ [] ∧ plnA A' sg' ∧ ∃ c, okL A' c := by
    intro n
    induction n with
    | zero => exact fun _ => ⟨[], rfl, fun k A' sg' h9 => by rw [List.getElem?_nil] at h9; cases h9⟩
    | succ n ih =>
      intro hn
      obtain ⟨Ns, n1, n2⟩ := ih (by omega)
      have hr : Ms[n]? = some Ms[n] := List.getElem?_eq_getElem (by omega)
      obtain ⟨A', sg', c, k1, k2, k3, k4, k5⟩ := h n _ hr
      refine ⟨Ns ++ [(A', sg')], by rw [List.length_append, n1]; rfl, fun k B sgB hB => ?_⟩
      by_cases hkn : k < n
      · rw [List.getElem?_append_left (by omega)] at hB
        exact n2 k B sgB hB
      · have hkl := (List.getElem?_eq_some_iff.mp hB).1
        rw [List.length_append, n1] at hkl
        have hkl : k < n + 1 := hkl
        have e : k = n := by omega
        subst e
        rw [List.getElem?_append_right (by omega), n1, Nat.sub_self] at hB
        cases hB
        rw [hr, ← k3]
        exact ⟨rfl, k2, k4, k5, c, k1⟩
  exact key _ (Nat.le_refl _)
end XJ
end
section
/-! 99zzzzzzzzzzzn.xmoves -/
/-! both sides: moves -/
def fB9 (g : Nat) : Prop := 2 ≤ g ∧ g ≤ 9 ∨ 20 ≤ g ∧ g ≤ 22 ∨ g = 27 ∨ 31 ≤ g ∧ g ≤ 34 ∨ 1000 ≤ g
def snkM (X : (Nat → Nat → Int32) → Prop) (z0 z : ow_MS) (S : List Nat → Prop) (n : Nat) : Prop := snk0 X z S n ∧ fr fB9 z0 z
theorem snkM_ok {X : (Nat → Nat → Int32) → Prop} {z0 : ow_MS} : snkF (snkM X z0) := by
  refine ⟨fun P z z1 S n hf hP h => ⟨snk0_ok.1 P z z1 S n hf hP h.1, fr_tr h.2 (fr_mono (fun g hg => by have := hP g hg; unfold fB9; omega) hf)⟩, fun z S n A sg hn ⟨h, h0⟩ hA hG hF h24 h6 => ?_, fun z S n n' hn h => ⟨snk0_ok.2.2 z S n n' hn h.1, h.2⟩⟩
  have ff : Te (fun K => qe_X13_offer K z) (fun z1 => fr fB9 z0 z1) := by
    obtain ⟨h1, h2, Ms, h3, h4, h5⟩ := h
    refine e_X13_offer ?_; unfold qm_X13_offer_0
    refine w_cs0 (tr_pack (o := 0) pn3 (by omega) ml27 (by omega) (by omega) (by omega) (by omega) hF hA hG) (fun z1 ⟨m, P, g1, g2, g3, g4, _, _⟩ => ?_)
    have i2 : z1.1 30 = 0 := by rw [(g3 30 (by unfold frQ; omega)).1]; exact h2
    have i3 : lsW z1 Ms := lsW_fr g3 (by unfold frQ; omega) h3
    exact w_rdF i2 (w_ifF (by decide) (w_ifT rfl (w_cs0 (xm_offerList (by omega) i3 g2 (dRow_pack hF g1 h24 h6 g2)) (fun z2 ⟨_, k4⟩ => w_some (fr_tr h0 (fr_tr (fr_mono (fun g hg => by unfold frQ at hg; unfold fB9; omega) g3) (fr_mono (fun g hg => by unfold fB9; omega) k4)))))))
  exact w_monoE (te_and (snk0_ok.2.1 z S n A sg hn h hA hG hF h24 h6) ff) (fun z1 ⟨⟨⟨S', a1, a2⟩, a3⟩, a4⟩ => ⟨⟨S', a1, a2, a4⟩, a3⟩)
section XMO
variable {X : (Nat → Nat → Int32) → Prop} {z : ow_MS} {St : plT} {x x' : Int32}
def rmv9 (X : (Nat → Nat → Int32) → Prop) (z : ow_MS) (A : rn_L) (sg : Nat → Bool) (kd : Nat) (r : Int32 × ow_MS) : Prop := gI X r.2 ∧ r.2.1 1 = 0 ∧ fr (fun g => g = 1 ∨ g = 30 ∨ fB9 g) z r.2 ∧ ∃ Ms, lsW r.2 Ms ∧ r.1 = nI Ms.length ∧ ∀ c, okF A.flatten c → (∀ r, r ∈ Ms → ∃ A' sg', OM A sg c kd A' sg' ∧ nfR A' sg' r) ∧ ∀ A' sg', OM A sg c kd A' sg' → ∃ r, r ∈ Ms ∧ nfR A' sg' r
theorem xq_moves (h : gI X z) (hR : relR z St) : Te (fun K => qe_X13_moves K x x' z) (fun r => (rFl X z 1 r ∧ ∀ d, d < 40 → x = nI d → St d = none) ∨ ∃ d A sg, d < 40 ∧ x = nI d ∧ St d = some (A, sg) ∧ (rFl X z 2 r ∧ ¬ in9 x' 5 ∨ ∃ kd, kd < 5 ∧ x' = nI kd ∧ rmv9 X z A sg kd r)) := by
  let Q : Int32 × ow_MS → Prop := fun r => (rFl X z 1 r ∧ ∀ d, d < 40 → x = nI d → St d = none) ∨ ∃ d A sg, d < 40 ∧ x = nI d ∧ St d = some (A, sg) ∧ (rFl X z 2 r ∧ ¬ in9 x' 5 ∨ ∃ kd, kd < 5 ∧ x' = nI kd ∧ rmv9 X z A sg kd r)
  have h1 := gI_1 (c := 0) h
  have hR1 := relR_1 (c := 0) hR
  have hk9 := in9_iff (x := x') (n := 5) (by omega)
  refine e_X13_moves ?_
  refine u_X13_moves_0 ?_; unfold qm_X13_moves_0
  refine w_wrF (w_hasX hR1 (fun h0 => w_ifT rfl (w_mono (w_failX (k := 1) h1 fr_1) (fun r hr => Or.inl ⟨hr, h0⟩))) (fun d A sg hd hx hSt hv hne => w_ifF (by decide) ?_))
  have c1 : ¬ in9 x' 5 → Tt (fun K i => q_X13_moves K i 1 x x' (usF z 1 0)) Q := by
    intro hno
    refine u_X13_moves_1 ?_; unfold qm_X13_moves_1
    exact w_mono (w_failX (k := 2) h1 fr_1) (fun r hr => Or.inr ⟨d, A, sg, hd, hx, hSt, Or.inl ⟨hr, hno⟩⟩)
  refine w_if (fun h9 => c1 (fun h8 => (hk9.mp h8).1 h9)) (fun h0 => ?_)
  obtain ⟨kd, k31, rfl⟩ := nI_of h0
  refine w_le (b := 4) k31 (by omega) (fun hk => ?_) (fun hk => c1 (fun ⟨j, j1, j2⟩ => by
    have := nI_inj9 (a := kd) (b := j) (by omega) (by omega) j2
    omega))
  subst hx
  refine w_cs0 (to_open pn1 hd hv) (fun z2 ⟨o1, f1⟩ => w_wrF (w_wrF ?_))
  have h2 : gI X z2 := gI_net pn1 f1 (fun g hg => by omega) h1
  have f2 : fr (fun g => g = 22 ∨ g = 30) z2 (usF (usF z2 22 0) 30 0) := fr_F2 (fr_F (Or.inl rfl)) (Or.inr rfl)
  have e22 : (usF (usF z2 22 0) 30 0).1 22 = nI 0 := rf_ot (by omega) (po_usF_at.trans nI_0.symm)
  have h3 : gI X (usF (usF z2 22 0) 30 0) := by
    obtain ⟨j1, j2, j3, j4, j5, j6, j7⟩ := h2
    exact ⟨gTape_fr f2 (by omega) j1, gRows_fr f2 (by omega) j2, ⟨0, by omega, e22, fun k hk => by omega, fun j hj => by omega⟩, gSum_fr f2 (by omega) (by omega) (by omega) j4, gCash_fr f2 (by omega) (by omega) (by omega) (by omega) (by omega) j5, gBrs_fr f2 (by omega) (by omega) (by omega) j6, gX_fr f2 (fun g hg => by omega) j7⟩
  have hs : snkM X (usF (usF z2 22 0) 30 0) (usF (usF z2 22 0) 30 0) (fun _ => False) 0 := ⟨⟨h3, po_usF_at, [], ⟨Nat.zero_le _, e22, fun k r hk => (by rw [List.getElem?_nil] at hk; cases hk), fun j hj => absurd hj (Nat.not_lt_zero _), List.Pairwise.nil⟩, fun r => ⟨fun h9 => h9.elim, fun h9 => by cases h9⟩, Nat.le_refl _⟩, fr_rf⟩
  obtain ⟨c, hc1, hc2⟩ := hv.2.1
  refine w_cs0 (xr_try snkM_ok pn1 (by omega) hc1 (show kd < 5 by omega) (oNet_fr f2 (fun g hg => by omega) o1) hs) (fun z3 ⟨⟨S', a1, ⟨b1, b2, Ms, b3, b4, b5⟩, b6⟩, _⟩ => w_rdF b3.2.1 (w_some (Or.inr ⟨d, A, sg, hd, rfl, hSt, Or.inr ⟨kd, by omega, rfl, b1, ?_, ?_, Ms, b3, rfl, fun c' hc' => ?_⟩⟩)))
  · show z3.1 1 = 0
    rw [(b6 1 (by unfold fB9; omega)).1, (f2 1 (by omega)).1, (f1 1 (by omega)).1]
    exact po_usF_at
  · refine fr_tr (fr_F (Or.inl rfl)) (fr_tr (fr_mono (fun g hg => Or.inr (Or.inr (by unfold fB9; omega))) f1) (fr_tr (fr_mono (fun g hg => ?_) f2) (fr_mono (fun g hg => Or.inr (Or.inr hg)) b6)))
    rcases hg with hg | hg
    · exact Or.inr (Or.inr (by unfold fB9; omega))
    · exact Or.inr (Or.inl hg)
  · have ec : c' = c := by
      have := okF_len hc1
      have := okF_len hc'
      omega
    rw [ec]
    refine ⟨fun r hr => ?_, fun A' sg' hO => ?_⟩
    · rcases a1.2.1 r ((b4 r).mpr hr) with h9 | h9
      · exact h9.elim
      · exact h9
    · obtain ⟨r, r1, r2⟩ := a1.2.2 A' sg' hO
      exact ⟨r, (b4 r).mp r1, r2⟩
end XMO
section XMD
variable {vl : Nat → Nat} {y : ow_MS} {St : plT} {x x' : Int32}
def cmv9 (y : ow_MS) (A : rn_L) (sg : Nat → Bool) (c kd : Nat) (r : Nat × Int32 × ow_MS) : Prop := r.1 = 0 ∧ gN r.2.2 ∧ fr (coP 2000) y r.2.2 ∧ ∃ R X os, nv R ∧ isoN A sg (fun x => x) R ∧ sgR c sg R ∧ tbO r.2.2 2000 1848 X os ∧ sts X os ∧ (∀ C, C ∈ X → ∃ j, j < mv_cnt R.1 kd ∧ mvD kd R j C) ∧ (∀ j, j < mv_cnt R.1 kd → mvN kd R j ∨ ∃ C, mvD kd R j C ∧ (C ∈ X ∨ os.length = 1848)) ∧ r.2.1 = nI os.length
theorem xc_moves (hN : gM y) (hC : relC y St) (hS : okS St) : Te (fun K => ce_X11_moves vl K 0 x x' y) (fun r => (r.1 = 1 ∧ r.2.2 = y ∧ ∀ d, d < 40 → x = nI d → St d = none) ∨ ∃ d A sg c, d < 40 ∧ x = nI d ∧ St d = some (A, sg) ∧ okL A c ∧ A ≠ [] ∧ plnA A sg ∧ (r.1 = 2 ∧ r.2.2 = y ∧ ¬ in9 x' 5 ∨ ∃ kd, kd < 5 ∧ x' = nI kd ∧ cmv9 y A sg c kd r)) := by
  have hk9 := in9_iff (x := x') (n := 5) (by omega)
  refine e_X11_moves ?_; unfold cm_X11_moves_0
  refine w_tc0 (xc_need hN.1.1 hC hS) ?_ ?_
  · rintro y1 ⟨h1, rfl⟩
    rcases h1 with h1 | ⟨-, d, A, sg, c, hd, rfl, hSt, hs, hA, hne, hpl⟩
    · exact absurd (show (0 : Nat) = 1 from h1.1) (by decide)
    · refine w_if (fun h9 => w_some (Or.inr ⟨d, A, sg, c, hd, rfl, hSt, hA, hne, hpl, Or.inl ⟨rfl, rfl, fun h8 => (hk9.mp h8).1 h9⟩⟩)) (fun e0 => ?_)
      obtain ⟨kd, k31, rfl⟩ := nI_of e0
      refine w_lt (b := 5) k31 (by omega) (fun hk => ?_) (fun hk => w_some (Or.inr ⟨d, A, sg, c, hd, rfl, hSt, hA, hne, hpl, Or.inl ⟨rfl, rfl, fun ⟨j, j1, j2⟩ => by
        have := nI_inj9 (a := kd) (b := j) (by omega) (by omega) j2
        omega⟩⟩))
      obtain ⟨⟨C2, o2, t2⟩, t3, t4, t5, t6⟩ := id hN.2
      refine w_wrF (w_cs0 (xc_collect ch_1000 hd (by omega) hs hA tH2 (by omega) (Nat.le_refl _) (tgk (Or.inl rfl)) hk (gN_F (far_cP (by omega)) hN.1) (tbO_0 t2.2.2.2.2) (fun i j hij hj => absurd hj (Nat.not_lt_zero _))) ?_)
      rintro y2 ⟨g1, g2, R, X, os', g3, g4, g5, g6, g7, g8, g9⟩
      have g6 : tbO y2 2000 1848 X os' := g6
      exact w_rdF g6.1.1 (w_some (Or.inr ⟨d, A, sg, c, hd, rfl, hSt, hA, hne, hpl, Or.inr ⟨kd, hk, rfl, rfl, g1, fr_tr (fr_F (by unfold coP cV; omega)) g2, R, X, os', g3, g4, g5, g6, g7, g8, g9, rfl⟩⟩))
  · rintro a y1 ha ⟨h1, rfl⟩
    rcases h1 with h1 | h1
    · exact w_some (Or.inl ⟨h1.1, rfl, h1.2⟩)
    · exact absurd h1.1 ha
end XMD
section XME
variable {X : (Nat → Nat → Int32) → Prop} {z y : ow_MS} {vl : Nat → Nat} {x x' : Int32}
/-- the lists of both sides, from what both sides did -/
theorem mv_both {A : rn_L} {sg : Nat → Bool} {c kd : Nat} {rr : Int32 × ow_MS} {rc : Nat × Int32 × ow_MS} (hk : kd < 5) (hA : okL A c) (hne : A ≠ []) (hpl : plnA A sg) (hr : rmv9 X z A sg kd rr) (hc : cmv9 y A sg c kd rc) : rr.1 = rc.2.1 ∧ ∃ Ns, rlR 20 21 22 2700 rr.2 Ns ∧ rlC 2000 1848 rc.2.2 Ns ∧ okM Ns := by
  obtain ⟨-, -, -, Ms, a1, a2, a3⟩ := hr
  obtain ⟨-, -, -, R, X9, os, b1, b2, b3, b4, b5, b6, b7, b8⟩ := hc
  have hV : isoV A sg idN R := isoV_of b2 b1.1
  have ec : R.1 = c := b3.1
  have hp : pm1 R := fun x hx => by
    rw [b3.2 x (by omega)]
    cases sg x
    · exact Or.inl rfl
    · exact Or.inr rfl
  obtain ⟨a3, a4⟩ := a3 c hA.1
  rw [← ec] at a3 a4
  have hoM := tabC_os b4.1
  obtain ⟨k1, k2⟩ := mv_join hV b1 hp (hpl _ _ hV hp) hA.2.2.2.2 hne hk a1.2.2.2.2 a3 a4 b4.1.2.1 hoM b5 b6 b7
  obtain ⟨Ns, n1, n2⟩ := mv_list k2
  refine ⟨by rw [a2, b8, k1], Ns, ⟨by rw [n1]; exact a1.1, by rw [n1]; exact a1.2.1, fun k A' sg' hN => ?_⟩, ⟨X9, os, b4, by rw [n1]; exact k1, fun k A' sg' hN => (n2 k A' sg' hN).2.1⟩, fun k A' sg' hN => ⟨(n2 k A' sg' hN).2.2.1, (n2 k A' sg' hN).2.2.2.1, (n2 k A' sg' hN).2.2.2.2⟩⟩
  obtain ⟨m1, -, m3, -, c', m5⟩ := n2 k A' sg' hN
  obtain ⟨j, j1, j2, j3⟩ := a1.2.2.1 k _ m1
  exact ⟨j, by omega, j2, m3, j3, ⟨c', m5.1, m5.2.2.2.1⟩, m5.2.2.2.2⟩
theorem c_moves (h : rel3 X z y) : Te (fun K => qe_X13_moves K x x' z) (fun rr => Te (fun K => ce_X11_moves vl K 0 x x' y) (fun rc => rel3 X rr.2 rc.2.2 ∧ ansI [(1, 1), (2, 2)] rr rc)) := by
  obtain ⟨⟨St, k⟩, hM, h2⟩ := id h
  refine te_two (xq_moves k.1 k.2.2.1) (te_and (tc_moves (x := x) (x' := x') hM) (xc_moves hM k.2.2.2.1 k.2.2.2.2)) (fun rr rc hr ⟨⟨hG, _⟩, hc⟩ => ?_)
  have same : ∀ {j k9 : Nat}, rFl X z j rr → (j, k9) ∈ [(1, 1), (2, 2)] → rc.1 = k9 → rc.2.2 = y → rel3 X rr.2 rc.2.2 ∧ ansI [(1, 1), (2, 2)] rr rc := fun hf hm e1 e2 => both_3 h (bo_fail k hf hm e1 (by rw [e2]; exact k.2.1) (by rw [e2]; exact fr_rf) (by rw [e2]; exact k.2.2.2.1))
  rcases hr with ⟨r1, r2⟩ | ⟨d, A, sg, hd, rfl, hSt, hr⟩
  · rcases hc with ⟨c1, c2, -⟩ | ⟨d, A, sg, c, hd, hx, hSt, -⟩
    · exact same r1 (by simp) c1 c2
    · rw [r2 d hd hx] at hSt
      cases hSt
  · rcases hc with ⟨-, -, c2⟩ | ⟨d', A', sg', c, hd', hx, hSt', hA, hne, hpl, hc⟩
    · rw [c2 d hd rfl] at hSt
      cases hSt
    · have ed := nI_inj9 (a := d) (b := d') (by omega) (by omega) hx
      subst ed
      rw [hSt] at hSt'
      cases hSt'
      rcases hr with ⟨r1, r2⟩ | ⟨kd, hk, rfl, hr⟩
      · rcases hc with ⟨c1, c2, -⟩ | ⟨kd, hk, rfl, -⟩
        · exact same r1 (by simp) c1 c2
        · exact absurd ⟨kd, hk, rfl⟩ r2
      · rcases hc with ⟨-, -, c2⟩ | ⟨kd', hk', hx', hc⟩
        · exact absurd ⟨kd, hk, rfl⟩ c2
        · have ek := nI_inj9 (a := kd) (b := kd') (by omega) (by omega) hx'
          subst ek
          obtain ⟨e1, Ns, q1, q2, q3⟩ := mv_both hk hA hne hpl hr hc
          obtain ⟨z1, z2, z3, -⟩ := hr
          obtain ⟨y1, y2, y3, -⟩ := hc
          obtain ⟨k1, k2, k3, -, Ns', k7, k8, k9⟩ := h2
          refine ⟨⟨⟨St, z1, y2, relR_fr z3 (by unfold fB9; omega) k.2.2.1, relC_fr y3 (fun q hq h9 => by unfold cW at hq; unfold coP cV at h9; omega) k.2.2.2.1, k.2.2.2.2⟩, hG, relT_k z3 y3 ⟨by unfold fB9; omega, by unfold fB9; omega⟩ ⟨by unfold coP cV; omega, by unfold coP cV; omega⟩ k1, relB_k z3 y3 ⟨by unfold fB9; omega, by unfold fB9; omega, by unfold fB9; omega⟩ ⟨by unfold coP cV; omega, by unfold coP cV; omega, by unfold coP cV; omega⟩ k2, brC_fr y3 ⟨by unfold coP cV; omega, by unfold coP cV; omega, by unfold coP cV; omega⟩ k3, ⟨Ns, q1, q2, q3⟩, Ns', rlR_k z3 ⟨by unfold fB9; omega, by unfold fB9; omega, by unfold fB9; omega⟩ k7, rlC_k y3 (fun q hq => by unfold cV at hq; unfold coP cV; omega) k8, k9⟩, Or.inl ⟨z2, y1, e1⟩⟩
end XME
end
section
/-! 99zzzzzzzzzzzo.xrow -/
/-! offers into rows in the order of their coming, exactly -/
def rwS (h : Nat) (z : ow_MS) (Ls : List (List Nat)) : Prop := (∀ (k : Nat) r, Ls[k]? = some r → rc_At z h (32 * k) r) ∧ (∀ j, j < Ls.length → dRow z h (32 * j)) ∧ Ls.Nodup
theorem rwS_fr {P : Nat → Prop} {z z1 : ow_MS} {h : Nat} {Ls : List (List Nat)} (hf : fr P z z1) (hP : ¬ P h) (hr : rwS h z Ls) : rwS h z1 Ls := ⟨fun k r hk => rc_fr hf hP (hr.1 k r hk), fun j hj => dRow_fr hf hP (hr.2.1 j hj), hr.2.2⟩
section XRO
variable {z : ow_MS} {h M la : Nat} {Ls : List (List Nat)} {F : List Nat}
theorem xm_offerRow (hla : (mX.2 h).2.1 = la) (ha : la < 2 ^ 30) (hh : h ≠ 27) (hM : Ls.length ≤ M) (hMl : 32 * M ≤ la) (hF : rc_At z 27 0 F) (hD : dRow z 27 0) (hR : rwS h z Ls) : Te (fun K => qe_X13_offerRow K h (nI Ls.length) (nI M) z) (fun r => ∃ Ls', r.1 = nI Ls'.length ∧ fr (fun g => g = h) z r.2 ∧ rwS h r.2 Ls' ∧ Ls'.length ≤ M ∧ (Ls' = Ls ∧ (F ∈ Ls ∨ Ls.length = M) ∨ F ∉ Ls ∧ Ls' = Ls ++ [F])) := by
  let Q : Int32 × ow_MS → Prop := fun r => ∃ Ls', r.1 = nI Ls'.length ∧ fr (fun g => g = h) z r.2 ∧ rwS h r.2 Ls' ∧ Ls'.length ≤ M ∧ (Ls' = Ls ∧ (F ∈ Ls ∨ Ls.length = M) ∨ F ∉ Ls ∧ Ls' = Ls ++ [F])
  have hl := hF.1
  obtain ⟨N, hN⟩ : ∃ N, N = Ls.length := ⟨_, rfl⟩
  rw [← hN] at hM
  have cp : N < M → F ∉ Ls → ∀ (d k : Nat) (z1 : ow_MS), k + d = F.length + 1 → fr (fun g => g = h) z z1 → (∀ i, i < k → z1.2.1 h (32 * N + i) = z.2.1 27 i) → (∀ i, i < 32 * N → z1.2.1 h i = z.2.1 h i) → Tt (fun K i => q_X13_offerRow K i 2 (nI N) (nI M) (nI k) h z1) Q := by
    intro hNM hno d
    induction d with
    | zero =>
      intro k z1 hk hf hc hi
      refine u_X13_offerRow_2 ?_; unfold qm_X13_offerRow_2
      refine w_rdI ml27 nI_0.symm (by omega) (x := nI F.length) (by rw [(hf 27 (fun e => hh e.symm)).2.1]; exact hF.2.2.1) (w_ltT (by omega) (by omega) (w_some ⟨Ls ++ [F], ?_, hf, ⟨fun j r hj => ?_, fun j hj => ?_, ?_⟩, ?_, Or.inr ⟨hno, rfl⟩⟩))
      · rw [List.length_append, ← hN]
        exact nI_1 N
      · by_cases hjN : j < N
        · rw [List.getElem?_append_left (by omega)] at hj
          exact rc_eq (fun i h1 h2 => hi i (by omega)) (hR.1 j r hj)
        · have h9 := (List.getElem?_eq_some_iff.mp hj).1
          rw [List.length_append, ← hN] at h9
          have h9 : j < N + 1 := h9
          have e : j = N := by omega
          subst e
          rw [List.getElem?_append_right (by omega), ← hN, Nat.sub_self] at hj
          cases hj
          exact rc_cp hF (fun i hi9 => hc i (by omega))
      · rw [List.length_append, ← hN] at hj
        have hj : j < N + 1 := hj
        by_cases hjN : j = N
        · rw [hjN]
          obtain ⟨A, sg, hv⟩ := hD
          have e := rc_uni hv.1 hF
          refine dRow_cp hv (fun i hi9 => hc i ?_)
          rw [e] at hi9
          omega
        · exact dRow_eq (fun i h1 h2 => hi i (by omega)) (hR.2.1 j (by omega))
      · rw [List.nodup_append]
        exact ⟨hR.2.2, List.nodup_cons.mpr ⟨List.not_mem_nil, List.nodup_nil⟩, fun a ha b hb e => hno (by rw [← List.mem_singleton.mp hb, ← e]; exact ha)⟩
      · rw [List.length_append, ← hN]
        exact hNM
    | succ d ih =>
      intro k z1 hk hf hc hi
      refine u_X13_offerRow_2 ?_; unfold qm_X13_offerRow_2
      rw [show (32 : Int32) * nI N = nI (32 * N) from pk_mul 32 N, nI_add, nI_1 k]
      refine w_rdI ml27 nI_0.symm (by omega) (x := nI F.length) (by rw [(hf 27 (fun e => hh e.symm)).2.1]; exact hF.2.2.1) (w_ltF (by omega) (by omega) (w_rdI ml27 rfl (by omega) (by rw [(hf 27 (fun e => hh e.symm)).2.1]) (w_wrI hla rfl (by omega) ?_)))
      refine ih (k + 1) _ (by omega) (fr_I2 hf rfl) (fun i hi9 => ?_) (fun i hi9 => rd_ne (by omega) (hi i hi9))
      by_cases hik : i = k
      · rw [hik, po_usI_at]
      · exact rd_ne (by omega) (hc i (by omega))
  have look : ∀ (d k : Nat), k + d = N → (∀ (i : Nat) r, i < k → Ls[i]? = some r → r ≠ F) → Tt (fun K i => q_X13_offerRow K i 1 (nI N) (nI M) (nI k) h z) Q := by
    intro d
    induction d with
    | zero =>
      intro k hk hbef
      have hno : F ∉ Ls := fun h9 => by
        obtain ⟨i, hi, e⟩ := List.getElem_of_mem h9
        exact hbef i _ (by omega) (List.getElem?_eq_getElem hi) e
      refine u_X13_offerRow_1 ?_; unfold qm_X13_offerRow_1
      exact w_leT (by omega) (by omega) (w_eqN (by omega) (by omega) (fun e => w_some ⟨Ls, by rw [hN], fr_rf, hR, by omega, Or.inl ⟨rfl, Or.inr (by omega)⟩⟩) (fun h9 => cp (by omega) hno _ 0 z (Nat.zero_add _) fr_rf (fun i hi => by omega) (fun i _ => rfl)))
    | succ d ih =>
      intro k hk hbef
      have hg : Ls[k]? = some Ls[k] := List.getElem?_eq_getElem (by omega)
      have hw := hR.1 k _ hg
      refine u_X13_offerRow_1 ?_; unfold qm_X13_offerRow_1
      rw [show (32 : Int32) * nI k = nI (32 * k) from pk_mul 32 k, nI_1]
      refine w_leF (by omega) (by omega) (w_cs1 (tr_same (o := 0) ml27 hla (by omega) ha (by omega) (by omega) hF hw) (fun a z1 e => ?_))
      cases e
      by_cases e : F = Ls[k]
      · refine w_ifF (by rw [decide_eq_true e]; decide) (w_some ⟨Ls, by rw [hN], fr_rf, hR, by omega, Or.inl ⟨rfl, Or.inl (by rw [e]; exact List.getElem_mem _)⟩⟩)
      · refine w_ifT (by rw [decide_eq_false e]; decide) (ih (k + 1) (by omega) (fun i r hi hr => ?_))
        by_cases hik : i = k
        · rw [hik, hg] at hr
          cases hr
          exact fun e9 => e e9.symm
        · exact hbef i r (by omega) hr
  have fin := look N 0 (by omega) (fun i r hi => by omega)
  rw [hN] at fin
  refine e_X13_offerRow ?_
  refine u_X13_offerRow_0 ?_; unfold qm_X13_offerRow_0
  exact fin
end XRO
end
section
/-! 99zzzzzzzzzzzp.xreach -/
/-! the class: all that moves of kinds 0, 2, 4 lead to, exactly -/
def k024 (kd : Nat) : Prop := kd = 0 ∨ kd = 2 ∨ kd = 4
def nxC (A : rn_L) (sg : Nat → Bool) (c : Nat) (R : ow_NT) : Prop := okL A c ∧ isoN A sg (fun x => x) R ∧ nv R ∧ sgR c sg R
def genC (Cs : List cdT) (C0 : cdT) : Prop := Cs[0]? = some C0 ∧ ∀ (i : Nat) C, Cs[i]? = some C → i = 0 ∨ ∃ i' A1 sg1 c R kd j, i' < i ∧ Cs[i']? = some (clC sg1 A1) ∧ nxC A1 sg1 c R ∧ k024 kd ∧ j < mv_cnt R.1 kd ∧ mvD kd R j C
def pcC (Cs : List cdT) (C : cdT) (kd : Nat) : Prop := ∃ A1 sg1 c R, C = clC sg1 A1 ∧ nxC A1 sg1 c R ∧ ∀ j, j < mv_cnt R.1 kd → mvN kd R j ∨ ∃ C', mvD kd R j C' ∧ (C' ∈ Cs ∨ Cs.length = 301)
def cloC (Cs : List cdT) : Prop := ∀ C, C ∈ Cs → ∀ kd, k024 kd → ∃ A1 sg1 c R, C = clC sg1 A1 ∧ nxC A1 sg1 c R ∧ ∀ j, j < mv_cnt R.1 kd → mvN kd R j ∨ ∃ C', mvD kd R j C' ∧ C' ∈ Cs
section XRE
variable {vl : Nat → Nat} {y : ow_MS} {Cs X : List cdT} {C C0 : cdT} {kd : Nat}
theorem tb_at2 {y : ow_MS} {g p s : Nat} {Cs : List cdT} {os : List Nat} (h : tbO y g p Cs os) (hs : s < Cs.length) : ∃ A sg c, okL A c ∧ slC y g s (clC sg A) ∧ Cs[s]? = some (clC sg A) := by
  obtain ⟨A, sg, c, h1, h2⟩ := h.2.2.1 Cs[s] (List.getElem_mem hs)
  have h3 := (h.1.2.2.1 s _ (List.getElem?_eq_getElem hs)).1
  have h4 := List.getElem?_eq_getElem hs
  rw [h2] at h3 h4
  exact ⟨A, sg, c, h1, h3, h4⟩
theorem pcC_app (hl : (Cs ++ X).length ≤ 301) (h : pcC Cs C kd) : pcC (Cs ++ X) C kd := by
  obtain ⟨A1, sg1, c, R, h1, h2, h3⟩ := h
  refine ⟨A1, sg1, c, R, h1, h2, fun j hj => (h3 j hj).imp id (fun ⟨C', k1, k2⟩ => ⟨C', k1, k2.imp (fun k => List.mem_append_left _ k) (fun k => ?_)⟩)⟩
  rw [List.length_append] at hl ⊢
  omega
theorem genC_app {i : Nat} {A1 : rn_L} {sg1 : Nat → Bool} {c : Nat} {R : ow_NT} (h : genC Cs C0) (hi : i < Cs.length) (hC : Cs[i]? = some (clC sg1 A1)) (hR : nxC A1 sg1 c R) (hk : k024 kd) (hX : ∀ C, C ∈ X → ∃ j, j < mv_cnt R.1 kd ∧ mvD kd R j C) : genC (Cs ++ X) C0 := by
  have up : ∀ {a : Nat} {D : cdT}, Cs[a]? = some D → (Cs ++ X)[a]? = some D := fun h9 => by
    rw [List.getElem?_append_left (List.getElem?_eq_some_iff.mp h9).1]
    exact h9
  refine ⟨up h.1, fun a D hD => ?_⟩
  by_cases ha : a < Cs.length
  · rw [List.getElem?_append_left ha] at hD
    rcases h.2 a D hD with h9 | ⟨i', A', sg', c', R', kd', j', q1, q2, q3⟩
    · exact Or.inl h9
    · exact Or.inr ⟨i', A', sg', c', R', kd', j', q1, up q2, q3⟩
  · rw [List.getElem?_append_right (by omega)] at hD
    obtain ⟨j, j1, j2⟩ := hX D (List.mem_of_getElem? hD)
    exact Or.inr ⟨i, A1, sg1, c, R, kd, j, by omega, up hC, hR, hk, j1, j2⟩
theorem xc_reach {d c : Nat} {A : rn_L} {sg : Nat → Bool} (hN : gM y) (hd : d < 40) (hs : slC y 1000 d (clC sg A)) (hA : okL A c) : Te (fun K => ce_X6_reach vl K 12000 1000 (nI d) y) (fun y1 => gM y1 ∧ fr (coP 13000) y y1 ∧ ∃ Cs os, tbO y1 13000 301 Cs os ∧ sts Cs os ∧ 0 < os.length ∧ genC Cs (clC sg A) ∧ (os.length ≤ 300 → cloC Cs)) := by
  let Q0 : ow_MS → Prop := fun y1 => gM y1 ∧ fr (coP 13000) y y1 ∧ ∃ Cs os, tbO y1 13000 301 Cs os ∧ sts Cs os ∧ 0 < os.length ∧ genC Cs (clC sg A) ∧ (os.length ≤ 300 → cloC Cs)
  have hg4 : 13000 = 2000 ∨ 13000 = 13000 ∨ 13000 = 14000 ∨ 13000 = 15000 := Or.inr (Or.inl rfl)
  have clo : ∀ {Cs : List cdT} {i : Nat}, Cs.length ≤ i → Cs.length ≤ 300 → (∀ (a : Nat) C, a < i → Cs[a]? = some C → ∀ kd, k024 kd → pcC Cs C kd) → cloC Cs := by
    intro Cs i h1 h2 h3 C hC kd hk
    obtain ⟨a, ha, e⟩ := List.getElem_of_mem hC
    obtain ⟨A1, sg1, c1, R1, q1, q2, q3⟩ := h3 a C (by omega) (by rw [List.getElem?_eq_getElem ha, e]) kd hk
    exact ⟨A1, sg1, c1, R1, q1, q2, fun j hj => (q3 j hj).imp id (fun ⟨C', k1, k2⟩ => ⟨C', k1, k2.elim id (fun k => by omega)⟩)⟩
  have c1 : ∀ (k i : Nat) (z : ow_MS) (Cs : List cdT) (os : List Nat), i + k = 302 → gN z → fr (coP 13000) y z → tbO z 13000 301 Cs os → sts Cs os → 0 < os.length → genC Cs (clC sg A) → (∀ (a : Nat) C, a < i → Cs[a]? = some C → ∀ kd, k024 kd → pcC Cs C kd) → Tt (fun K t => c_X6_reach vl K t 1 (nI d) (nI i) 12000 1000 z) Q0 := by
    intro k
    induction k with
    | zero =>
      intro i z Cs os hi q1 q2 q3 qs q4 qg qp
      have hl := q3.2.2.2.1
      have hCl : Cs.length = os.length := q3.1.2.1
      refine u_X6_reach_1 ?_; unfold cm_X6_reach_1
      exact w_rdF q3.1.1 (w_leT (by omega) (by omega) (w_some ⟨⟨q1, tbs_co (Or.inl rfl) q2 q3.2.2.2.2 hN.2⟩, q2, Cs, os, q3, qs, q4, qg, fun h9 => clo (i := i) (by omega) (by omega) qp⟩))
    | succ k ih =>
      intro i z Cs os hi q1 q2 q3 qs q4 qg qp
      have hl := q3.2.2.2.1
      have hCl : Cs.length = os.length := q3.1.2.1
      have fin : (os.length ≤ 300 → cloC Cs) → Tt (fun _ _ => some z) Q0 := fun h9 => w_some ⟨⟨q1, tbs_co (Or.inl rfl) q2 q3.2.2.2.2 hN.2⟩, q2, Cs, os, q3, qs, q4, qg, h9⟩
      refine u_X6_reach_1 ?_; unfold cm_X6_reach_1
      refine w_rdF q3.1.1 (w_le (by omega) (by omega) (fun h9 => fin (fun h8 => clo (i := i) (by omega) (by omega) qp)) (fun hio => w_rdF q3.1.1 (w_lt (a := 300) (by omega) (by omega) (fun h9 => fin (fun h8 => by omega)) (fun _ => ?_))))
      obtain ⟨B, sgB, cB, b1, b2, b3⟩ := tb_at2 q3 (show i < Cs.length by omega)
      refine w_cs0 (xc_collect (kd := 0) tH13 (show i < 301 by omega) (by omega) b2 b1 tH13 (by omega) (by omega) (tgk hg4) (by omega) q1 q3 qs) ?_
      rintro z1 ⟨g1, g2, R1, X1, os1, gn1, gi1, gr1, g5, gs1, gx1, gy1⟩
      have hl1 : (Cs ++ X1).length = os1.length := g5.1.2.1
      have hm1 := g5.2.2.2.1
      have hi1 : i < (Cs ++ X1).length := by rw [List.length_append]; omega
      obtain ⟨B1, sgB1, cB1, b11, b12, b13⟩ := tb_at2 g5 hi1
      refine w_cs0 (xc_collect (kd := 2) tH13 (show i < 301 by omega) (by omega) b12 b11 tH13 (by omega) (by omega) (tgk hg4) (by omega) g1 g5 gs1) ?_
      rintro z2 ⟨g1', g2', R2, X2, os2, gn2, gi2, gr2, g5', gs2, gx2, gy2⟩
      have hl2 : (Cs ++ X1 ++ X2).length = os2.length := g5'.1.2.1
      have hm2 := g5'.2.2.2.1
      have hi2 : i < (Cs ++ X1 ++ X2).length := by rw [List.length_append]; omega
      obtain ⟨B2, sgB2, cB2, b21, b22, b23⟩ := tb_at2 g5' hi2
      refine w_cs0 (xc_collect (kd := 4) tH13 (show i < 301 by omega) (by omega) b22 b21 tH13 (by omega) (by omega) (tgk hg4) (by omega) g1' g5' gs2) ?_
      rintro z3 ⟨g1'', g2'', R3, X3, os3, gn3, gi3, gr3, g5'', gs3, gx3, gy3⟩
      have hl3 : (Cs ++ X1 ++ X2 ++ X3).length = os3.length := g5''.1.2.1
      have hm3 := g5''.2.2.2.1
      have up : ∀ {L Y : List cdT} {a : Nat} {D : cdT}, L[a]? = some D → (L ++ Y)[a]? = some D := fun {L Y a D} h9 => by
        rw [List.getElem?_append_left (List.getElem?_eq_some_iff.mp h9).1]
        exact h9
      have G1 := genC_app (kd := 0) qg (by omega) b3 ⟨b1, gi1, gn1, gr1⟩ (Or.inl rfl) gx1
      have G2 := genC_app (kd := 2) G1 hi1 b13 ⟨b11, gi2, gn2, gr2⟩ (Or.inr (Or.inl rfl)) gx2
      have G3 := genC_app (kd := 4) G2 hi2 b23 ⟨b21, gi3, gn3, gr3⟩ (Or.inr (Or.inr rfl)) gx3
      have P1 : pcC (Cs ++ X1) (clC sgB B) 0 := ⟨B, sgB, cB, R1, rfl, ⟨b1, gi1, gn1, gr1⟩, fun j hj => (gy1 j hj).imp id (fun ⟨C', k1, k2⟩ => ⟨C', k1, k2.imp id (fun k => by rw [hl1, k])⟩)⟩
      have P2 : pcC (Cs ++ X1 ++ X2) (clC sgB1 B1) 2 := ⟨B1, sgB1, cB1, R2, rfl, ⟨b11, gi2, gn2, gr2⟩, fun j hj => (gy2 j hj).imp id (fun ⟨C', k1, k2⟩ => ⟨C', k1, k2.imp id (fun k => by rw [hl2, k])⟩)⟩
      have P3 : pcC (Cs ++ X1 ++ X2 ++ X3) (clC sgB2 B2) 4 := ⟨B2, sgB2, cB2, R3, rfl, ⟨b21, gi3, gn3, gr3⟩, fun j hj => (gy3 j hj).imp id (fun ⟨C', k1, k2⟩ => ⟨C', k1, k2.imp id (fun k => by rw [hl3, k])⟩)⟩
      have e1 : clC sgB1 B1 = clC sgB B := Option.some.inj (b13.symm.trans (up b3))
      have e2 : clC sgB2 B2 = clC sgB B := Option.some.inj (b23.symm.trans (up (up b3)))
      rw [e1] at P2
      rw [e2] at P3
      rw [nI_1]
      refine ih (i + 1) z3 _ os3 (by omega) g1'' (fr_tr q2 (fr_tr g2 (fr_tr g2' g2''))) g5'' gs3 (by rw [List.length_append, List.length_append, List.length_append] at hl3; omega) G3 (fun a D ha hD kd hkd => ?_)
      have b33 : (Cs ++ X1 ++ X2 ++ X3).length ≤ 301 := by omega
      have b32 : (Cs ++ X1 ++ X2).length ≤ 301 := by omega
      have b31 : (Cs ++ X1).length ≤ 301 := by omega
      by_cases hai : a = i
      · rw [hai, up (up (up b3))] at hD
        cases hD
        rcases hkd with e | e | e <;> subst e
        · exact pcC_app b33 (pcC_app b32 P1)
        · exact pcC_app b33 P2
        · exact P3
      · have ha2 : a < Cs.length := by omega
        have hD2 : Cs[a]? = some D := by
          rw [List.append_assoc, List.append_assoc, List.getElem?_append_left ha2] at hD
          exact hD
        exact pcC_app b33 (pcC_app b32 (pcC_app b31 (qp a D (by omega) hD2 kd hkd)))
  refine e_X6_reach ?_
  refine u_X6_reach_0 ?_; unfold cm_X6_reach_0
  have t0 := tbO_0 (p := 301) (show byR y (13000 + 1) from hN.2.2.2.1)
  have oC := (okL_c (sg := sg) hA).2
  refine w_wrF (w_cs0 (tc_addNew tH13 ch_1000 (by omega) hd t0.1 (Nat.zero_le _) (B := clC sg A) hs oC hN.1.1.1) ?_)
  rintro z1 ⟨a1, a2, a3⟩
  have f1 : fr (coP 13000) y z1 := fr_tr (fr_F (by unfold coP cV; omega)) (fr_mono (fun q hq => Or.inr (Or.inr hq)) a3)
  have n1 : gN z1 := by
    have hk := (gN_F (x := 0) (far_cP (g := 13005) (by omega)) hN.1)
    refine ⟨dgC_fr a3 (fun q q1 q2 h9 => by unfold cV at h9; omega) hk.1, nsC_fr a3 (fun h hh q hq h9 => far_cP (g := q) (by unfold cV at h9; omega) h hh hq) hk.2.1, kdC_fr a3 (fun q h9 => by unfold cV at h9; omega) hk.2.2⟩
  rcases a1 with ⟨⟨k, k1, k2⟩, -⟩ | ⟨k, k1, k2, k3⟩
  · exact absurd k1 (Nat.not_lt_zero _)
  · rw [if_pos (show ([] : List Nat).length < 301 from by show 0 < 301; omega)] at k3
    have k0 : k = 0 := Nat.le_zero.mp k1
    refine c1 302 0 z1 [clC sg A] (insO [] k ([] : List Nat).length) (by omega) n1 f1 ⟨k3, ?_, fun C hC => ?_, ?_, a2 t0.2.2.2.2⟩ ?_ ?_ ⟨rfl, fun i C hi => ?_⟩ (fun a C ha => absurd ha (Nat.not_lt_zero _))
    · intro i j hij hj
      rw [insO_len k1] at hj
      have : j < 1 := hj
      omega
    · rw [List.mem_singleton.mp hC]
      exact ⟨A, sg, c, hA, rfl⟩
    · rw [insO_len k1]
      show 0 + 1 ≤ 301
      omega
    · intro i j hij hj
      rw [insO_len k1] at hj
      have : j < 1 := hj
      omega
    · rw [insO_len k1]
      exact Nat.succ_pos _
    · have h9 : i < 1 := (List.getElem?_eq_some_iff.mp hi).1
      exact Or.inl (by omega)
end XRE
end
section
/-! 99zzzzzzzzzzzq.xsim -/
/-! the reference: all that moves of kinds 0, 2, 4 lead to, exactly -/
def fB3 (g : Nat) : Prop := 2 ≤ g ∧ g ≤ 9 ∨ 25 ≤ g ∧ g ≤ 27 ∨ 31 ≤ g ∧ g ≤ 34 ∨ 1000 ≤ g
def snk3 (X : (Nat → Nat → Int32) → Prop) (z0 : ow_MS) (L0 : List (List Nat)) (z : ow_MS) (S : List Nat → Prop) (n : Nat) : Prop := gI X z ∧ z.1 30 = nI 3 ∧ fr fB3 z0 z ∧ ∃ Ls, z.1 26 = nI Ls.length ∧ rwS 25 z Ls ∧ Ls.length ≤ 310 ∧ (∃ Y, Ls = L0 ++ Y) ∧ (∀ r, r ∈ Ls → S r) ∧ (Ls.length < 310 → ∀ r, S r → r ∈ Ls)
theorem snk3_ok {X : (Nat → Nat → Int32) → Prop} {z0 : ow_MS} {L0 : List (List Nat)} : snkF (snk3 X z0 L0) := by
  refine ⟨fun P z z1 S n hf hP h => ?_, fun z S n A sg hn h hA hG hF h24 h6 => ?_, fun z S n n' hn h => h⟩
  · obtain ⟨h1, h2, h3, Ls, h4, h5, h6⟩ := h
    refine ⟨gI_fr hf (fun g hg => by have := hP g hg; unfold per; omega) h1, by rw [(hf 30 (fun h9 => by have := hP _ h9; omega)).1]; exact h2, fr_tr h3 (fr_mono (fun g hg => by have := hP g hg; unfold fB3; omega) hf), Ls, by rw [(hf 26 (fun h9 => by have := hP _ h9; omega)).1]; exact h4, rwS_fr hf (fun h9 => by have := hP _ h9; omega) h5, h6⟩
  · obtain ⟨h1, h2, h3, Ls, h4, h5, h7, ⟨Y, h8⟩, h9, h10⟩ := h
    refine e_X13_offer ?_; unfold qm_X13_offer_0
    refine w_cs0 (tr_pack (o := 0) pn3 (by omega) ml27 (by omega) (by omega) (by omega) (by omega) hF hA hG) (fun z1 ⟨m, P, g1, g2, g3, g4, _, _⟩ => ?_)
    have i1 : gI X z1 := gI_fr g3 (fun g hg => by unfold frQ at hg; unfold per; omega) h1
    have i2 : z1.1 30 = nI 3 := by rw [(g3 30 (by unfold frQ; omega)).1]; exact h2
    have i3 : rwS 25 z1 Ls := rwS_fr g3 (by unfold frQ; omega) h5
    have i4 : z1.1 26 = nI Ls.length := by rw [(g3 26 (by unfold frQ; omega)).1]; exact h4
    have f1 : fr fB3 z z1 := fr_mono (fun g hg => by unfold frQ at hg; unfold fB3; omega) g3
    refine w_rdF i2 (w_ifT (by decide) (w_rdF i4 (w_cs1 (xm_offerRow (M := 310) ml25 (by omega) (by omega) h7 (by omega) g2 (dRow_pack hF g1 h24 h6 g2) i3) (fun a z2 ⟨Ls', k1, k2, k3, k4, k5⟩ => w_wrF (w_some ?_)))))
    have k1 : a = nI Ls'.length := k1
    have f2 : fr (fun g => g = 25 ∨ g = 26) z1 (usF z2 26 a) := fr_F2 (fr_mono (fun g hg => Or.inl hg) k2) (Or.inr rfl)
    refine ⟨⟨fun r => r = pkR A sg m P ∨ S r, ⟨fun r hr => Or.inr hr, fun r hr => ?_, fun A' sg' ⟨e1, e2⟩ => ?_⟩, gI_fr f2 (fun g hg => by unfold per; omega) i1, by rw [(f2 30 (by omega)).1]; exact i2, fr_tr h3 (fr_tr f1 (fr_mono (fun g hg => by unfold fB3; omega) f2)), Ls', by rw [po_usF_at, k1], rwS_fr (P := fun g => g = 26) (fr_F rfl) (by decide) k3, k4, ?_, fun r hr => ?_, fun hlt r hr => ?_⟩, ?_⟩
    · rcases hr with hr | hr
      · exact Or.inr ⟨A, sg, ⟨rfl, rfl⟩, m, P, g1, hr⟩
      · exact Or.inl hr
    · rw [e1, e2]
      exact ⟨_, Or.inl rfl, m, P, g1, rfl⟩
    · rcases k5 with ⟨e, -⟩ | ⟨-, e⟩
      · exact ⟨Y, by rw [e, h8]⟩
      · exact ⟨Y ++ [pkR A sg m P], by rw [e, h8, List.append_assoc]⟩
    · rcases k5 with ⟨e, -⟩ | ⟨-, e⟩
      · rw [e] at hr
        exact Or.inr (h9 r hr)
      · rw [e] at hr
        rcases List.mem_append.mp hr with hr | hr
        · exact Or.inr (h9 r hr)
        · exact Or.inl (List.mem_singleton.mp hr)
    · rcases k5 with ⟨e, hm⟩ | ⟨-, e⟩
      · rw [e] at hlt ⊢
        rcases hr with hr | hr
        · rcases hm with hm | hm
          · rw [hr]
            exact hm
          · omega
        · exact h10 hlt r hr
      · rw [e] at hlt ⊢
        rw [List.length_append] at hlt
        rcases hr with hr | hr
        · rw [hr]
          exact List.mem_append_right _ (List.mem_singleton.mpr rfl)
        · exact List.mem_append_left _ (h10 (by omega) r hr)
    · exact fr_tr (fr_mono (fun g hg => by unfold frQ at hg; unfold frO; omega) g3) (fr_mono (fun g hg => Or.inl (by omega)) f2)
def nxR (r : List Nat) (A : rn_L) (sg : Nat → Bool) (c : Nat) : Prop := r = tk sg A ∧ okF A.flatten c ∧ c ≤ 12 ∧ A.length ≤ 6
def genR (Ls : List (List Nat)) (r0 : List Nat) : Prop := Ls[0]? = some r0 ∧ ∀ (i : Nat) r, Ls[i]? = some r → i = 0 ∨ ∃ i' r' A sg c kd A' sg', i' < i ∧ Ls[i']? = some r' ∧ nxR r' A sg c ∧ k024 kd ∧ OM A sg c kd A' sg' ∧ nfR A' sg' r
def pcR (Ls : List (List Nat)) (r : List Nat) (kd : Nat) : Prop := ∃ A sg c, nxR r A sg c ∧ ∀ A' sg', OM A sg c kd A' sg' → (∃ r', r' ∈ Ls ∧ nfR A' sg' r') ∨ Ls.length = 310
def cloR (Ls : List (List Nat)) : Prop := ∀ r, r ∈ Ls → ∀ kd, k024 kd → ∃ A sg c, nxR r A sg c ∧ ∀ A' sg', OM A sg c kd A' sg' → ∃ r', r' ∈ Ls ∧ nfR A' sg' r'
section XSI
variable {X : (Nat → Nat → Int32) → Prop} {z : ow_MS} {St : plT} {x : Int32} {Ls Y : List (List Nat)} {r r0 : List Nat} {kd : Nat}
theorem pcR_app (hl : (Ls ++ Y).length ≤ 310) (h : pcR Ls r kd) : pcR (Ls ++ Y) r kd := by
  obtain ⟨A, sg, c, h1, h2⟩ := h
  refine ⟨A, sg, c, h1, fun A' sg' hO => (h2 A' sg' hO).imp (fun ⟨r', k1, k2⟩ => ⟨r', List.mem_append_left _ k1, k2⟩) (fun k => ?_)⟩
  rw [List.length_append] at hl ⊢
  omega
theorem genR_app {i : Nat} {A : rn_L} {sg : Nat → Bool} {c : Nat} (h : genR Ls r0) (hi : Ls[i]? = some r) (hR : nxR r A sg c) (hk : k024 kd) (hY : ∀ s, s ∈ Y → ∃ A' sg', OM A sg c kd A' sg' ∧ nfR A' sg' s) : genR (Ls ++ Y) r0 := by
  have up : ∀ {a : Nat} {D : List Nat}, Ls[a]? = some D → (Ls ++ Y)[a]? = some D := fun h9 => by
    rw [List.getElem?_append_left (List.getElem?_eq_some_iff.mp h9).1]
    exact h9
  have hil := (List.getElem?_eq_some_iff.mp hi).1
  refine ⟨up h.1, fun a D hD => ?_⟩
  by_cases ha : a < Ls.length
  · rw [List.getElem?_append_left ha] at hD
    rcases h.2 a D hD with h9 | ⟨i', r', A9, sg9, c9, kd9, A', sg', q1, q2, q3⟩
    · exact Or.inl h9
    · exact Or.inr ⟨i', r', A9, sg9, c9, kd9, A', sg', q1, up q2, q3⟩
  · rw [List.getElem?_append_right (by omega)] at hD
    obtain ⟨A', sg', j1, j2⟩ := hY D (List.mem_of_getElem? hD)
    exact Or.inr ⟨i, r, A, sg, c, kd, A', sg', by omega, up hi, hR, hk, j1, j2⟩
def sim9 (X : (Nat → Nat → Int32) → Prop) (z : ow_MS) (St : plT) (e : Nat) (r0 : List Nat) (r : Int32 × ow_MS) : Prop := ∃ Ls, Ls.Nodup ∧ genR Ls r0 ∧ (300 < Ls.length ∧ r.1 = -2 ∧ gI X r.2 ∧ r.2.1 1 = 0 ∧ fr (fun g => g = 1 ∨ g = 30 ∨ fB3 g) z r.2 ∨ Ls.length ≤ 300 ∧ cloR Ls ∧ ∃ B sgB, tk sgB B ∈ Ls ∧ (∀ r', r' ∈ Ls → lsr r' (tk sgB B) = false) ∧ (∀ p, p ∈ B.flatten → p.2 < 2) ∧ (B ≠ [] → r.1 = nI e ∧ gI X r.2 ∧ r.2.1 1 = 0 ∧ fr (fun g => g = 1 ∨ g = 12 ∨ g = 30 ∨ fB3 g) z r.2 ∧ relR r.2 (upP St e (some (B, sgB)))))
theorem xq_simplify (h : gI X z) (hR : relR z St) : Te (fun K => qe_X13_simplify K x z) (fun r => (rFl X z 1 r ∧ ∀ d, d < 40 → x = nI d → St d = none) ∨ ∃ d A sg, d < 40 ∧ x = nI d ∧ St d = some (A, sg) ∧ (rFl X z 2 r ∧ allF St ∨ ∃ e, lstF St e ∧ sim9 X z St e (tk sg A) r)) := by
  have h1 := gI_1 (c := 0) h
  have hR1 := relR_1 (c := 0) hR
  refine e_X13_simplify ?_
  refine u_X13_simplify_0 ?_; unfold qm_X13_simplify_0
  refine w_wrF (w_hasX hR1 (fun h0 => w_ifT rfl (w_mono (w_failX (k := 1) h1 fr_1) (fun r hr => Or.inl ⟨hr, h0⟩))) (fun d A sg hd hx hSt hv hne => w_ifF (by decide) (w_freeX hR1 (fun h0 => w_ifT rfl (w_mono (w_failX (k := 2) h1 fr_1) (fun r hr => Or.inr ⟨d, A, sg, hd, hx, hSt, Or.inl ⟨hr, h0⟩⟩))) (fun f hlf => w_ifF (rn_neg1 (by have := hlf.1; omega)) ?_))))
  subst hx
  have hl := hv.1.1
  refine w_mono (R := fun r => sim9 X z St f (tk sg A) r) ?_ (fun r hr => Or.inr ⟨d, A, sg, hd, rfl, hSt, Or.inr ⟨f, hlf, hr⟩⟩)
  let Q : Int32 × ow_MS → Prop := fun r => sim9 X z St f (tk sg A) r
  let J : List (List Nat) → ow_MS → Prop := fun Ls y => gI X y ∧ y.1 30 = nI 3 ∧ fr (fun g => g = 30 ∨ fB3 g) (usF z 1 0) y ∧ y.1 26 = nI Ls.length ∧ rwS 25 y Ls ∧ Ls.length ≤ 310
  let I : List (List Nat) → Nat → Nat → Prop := fun Ls at9 le => genR Ls (tk sg A) ∧ (∀ (a : Nat) r, a < at9 → Ls[a]? = some r → ∀ kd, k024 kd → pcR Ls r kd) ∧ le < Ls.length ∧ ∀ (a : Nat) r rl, a < at9 → Ls[a]? = some r → Ls[le]? = some rl → lsr r rl = false
  have z1 : (usF z 1 0).1 1 = 0 := po_usF_at
  have c5 : ∀ (le at9 : Nat) (Ls : List (List Nat)) (y : ow_MS), J Ls y → I Ls at9 le → (Ls.length ≤ at9 ∨ 300 < Ls.length) → Tt (fun K i => q_X13_simplify K i 5 (nI d) (nI le) (nI at9) 0 y) Q := by
    intro le at9 Ls y ⟨j1, j2, j3, j4, j5, j6⟩ ⟨i1, i2, i3, i4⟩ hex
    have e1 : y.1 1 = 0 := by rw [(j3 1 (by unfold fB3; omega)).1]; exact z1
    refine u_X13_simplify_5 ?_; unfold qm_X13_simplify_5
    rw [show (32 : Int32) * nI le = nI (32 * le) from pk_mul 32 le]
    refine w_rdF j4 (w_le (b := 300) (by omega) (by omega) (fun h300 => ?_) (fun h300 => w_some ⟨Ls, j5.2.2, i1, Or.inl ⟨h300, rfl, j1, e1, fr_tr (fr_F (Or.inl rfl)) (fr_mono (fun g hg => Or.inr hg) j3)⟩⟩))
    have hat : Ls.length ≤ at9 := by omega
    have clo : cloR Ls := by
      intro r hr kd hk
      obtain ⟨a, ha, e⟩ := List.getElem_of_mem hr
      obtain ⟨A1, sg1, c1, q1, q2⟩ := i2 a r (by omega) (by rw [List.getElem?_eq_getElem ha, e]) kd hk
      exact ⟨A1, sg1, c1, q1, fun A' sg' hO => (q2 A' sg' hO).elim id (fun k => by omega)⟩
    have hle : Ls[le]? = some Ls[le] := List.getElem?_eq_getElem i3
    obtain ⟨B, sgB, hw⟩ := j5.2.1 le i3
    have eB : tk sgB B = Ls[le] := rc_uni hw.1 (j5.1 le _ hle)
    have least : ∀ r', r' ∈ Ls → lsr r' (tk sgB B) = false := by
      intro r' hr'
      obtain ⟨a, ha, e⟩ := List.getElem_of_mem hr'
      rw [eB]
      exact i4 a r' _ (by omega) (by rw [List.getElem?_eq_getElem ha, e]) hle
    have hu : ∀ p, p ∈ B.flatten → p.2 < 2 := fun p hp => by
      obtain ⟨c9, hc9, -⟩ := hw.2.1
      exact ((hc9.2 p).mp hp).2
    have hRy : relR y St := relR_fr j3 (by unfold fB3; omega) hR1
    by_cases hB : B = []
    · have hT := tm_keepRow j1 (frD_of hRy hlf) (by omega) ml25 (by omega) (by omega) (j5.2.1 le i3)
      refine w_cs1 hT (fun a y1 h9 => w_some ⟨Ls, j5.2.2, i1, Or.inr ⟨h300, clo, B, sgB, by rw [eB]; exact List.getElem_mem _, least, hu, fun h8 => absurd hB h8⟩⟩)
    · refine w_cs1 (xr_keepRow j1 hRy hlf (by omega) ml25 (by omega) (by omega) hw hB) (fun a y1 ⟨q1, q2, q3, q4⟩ => w_some ⟨Ls, j5.2.2, i1, Or.inr ⟨h300, clo, B, sgB, by rw [eB]; exact List.getElem_mem _, least, hu, fun _ => ⟨q2, q1, ?_, ?_, q4⟩⟩⟩)
      · show y1.1 1 = 0
        rw [(q3 1 (by omega)).1]
        exact e1
      · refine fr_tr (fr_F (Or.inl rfl)) (fr_tr (fr_mono (fun g hg => ?_) j3) (fr_mono (fun g hg => Or.inr (Or.inl hg)) q3))
        rcases hg with hg | hg
        · exact Or.inr (Or.inr (Or.inl hg))
        · exact Or.inr (Or.inr (Or.inr hg))
  have main : ∀ (k at9 le : Nat) (Ls : List (List Nat)) (y : ow_MS), at9 + k = 311 → J Ls y → I Ls at9 le → Tt (fun K i => q_X13_simplify K i 2 (nI d) (nI le) (nI at9) 0 y) Q := by
    intro k
    induction k with
    | zero =>
      intro at9 le Ls y ha hj hi
      have j6 := hj.2.2.2.2.2
      refine u_X13_simplify_2 ?_; unfold qm_X13_simplify_2
      exact w_rdF hj.2.2.2.1 (w_leT (by omega) (by omega) (c5 le at9 Ls y hj hi (Or.inl (by omega))))
    | succ k ih =>
      intro at9 le Ls y ha hj hi
      have kinds : ∀ (j kd le2 : Nat) (Ls : List (List Nat)) (y : ow_MS), kd + 2 * j = 6 → J Ls y → genR Ls (tk sg A) → (∀ (a : Nat) r, a < at9 → Ls[a]? = some r → ∀ kd, k024 kd → pcR Ls r kd) → le2 < Ls.length → (∀ (a : Nat) r rl, a < at9 + 1 → Ls[a]? = some r → Ls[le2]? = some rl → lsr r rl = false) → at9 < Ls.length → (∀ r, Ls[at9]? = some r → ∀ kd', k024 kd' → kd' < kd → pcR Ls r kd') → Tt (fun K i => q_X13_simplify K i 4 (nI d) (nI le2) (nI at9) (nI kd) y) Q := by
        intro j
        induction j with
        | zero =>
          intro kd le2 Ls y hkd hj g1 g2 g3 g4 g5 g6
          refine u_X13_simplify_4 ?_; unfold qm_X13_simplify_4
          rw [nI_1]
          refine w_leT (a := 5) (by omega) (by omega) (ih (at9 + 1) le2 Ls y (by omega) hj ⟨g1, fun a r ha9 hr kd' hk' => ?_, g3, g4⟩)
          by_cases e : a = at9
          · rw [e] at hr
            exact g6 r hr kd' hk' (by rcases hk' with h9 | h9 | h9 <;> omega)
          · exact g2 a r (by omega) hr kd' hk'
        | succ j ihj =>
          intro kd le2 Ls y hkd hj g1 g2 g3 g4 g5 g6
          obtain ⟨j1, j2, j3, j4, j5, j6⟩ := hj
          have hk0 : k024 kd := by unfold k024; omega
          obtain ⟨B, sg2, hw⟩ := j5.2.1 at9 g5
          have hat : Ls[at9]? = some Ls[at9] := List.getElem?_eq_getElem g5
          have eB : tk sg2 B = Ls[at9] := rc_uni hw.1 (j5.1 at9 _ hat)
          obtain ⟨c9, hc1, hc2⟩ := hw.2.1
          have hnx : nxR Ls[at9] B sg2 c9 := ⟨eB.symm, hc1, hc2, hw.2.2⟩
          refine u_X13_simplify_4 ?_; unfold qm_X13_simplify_4
          rw [show (32 : Int32) * nI at9 = nI (32 * at9) from pk_mul 32 at9, show nI kd + 2 = nI (kd + 2) from nI_add kd 2]
          refine w_leF (a := 5) (by omega) (by omega) (w_cs0 (to_unpack (by omega) ml25 (by omega) (by omega) hw) (fun y1 ⟨a1, a2, a3⟩ => w_cs0 (to_link hw a1 a2) (fun y2 ⟨b1, b2⟩ => ?_)))
          have f12 : fr fB3 y y2 := fr_tr (fr_mono (fun g hg => by unfold fB3; omega) a3) (fr_mono (fun g hg => by unfold fB3; omega) b2)
          have hs2 : snk3 X y2 Ls y2 (fun r => r ∈ Ls) 0 := by
            refine ⟨gI_net pn1 (fr_tr (fr_mono (fun g hg => by omega) a3) (fr_mono (fun g hg => by omega) b2)) (fun g hg => hg) j1, ?_, fr_rf, Ls, ?_, rwS_fr b2 (by omega) (rwS_fr a3 (by omega) j5), j6, ⟨[], (List.append_nil _).symm⟩, fun r hr => hr, fun _ r hr => hr⟩
            · rw [(b2 30 (by omega)).1, (a3 30 (by omega)).1]
              exact j2
            · rw [(b2 26 (by omega)).1, (a3 26 (by omega)).1]
              exact j4
          refine w_cs0 (xr_try snk3_ok pn1 (by omega) hc1 (show kd < 5 by omega) b1 hs2) (fun y3 ⟨⟨S', s1, s2, s3, s4, Ls', s5, s6, s7, ⟨Yy, s8⟩, s9, s10⟩, _⟩ => ?_)
          subst s8
          have up : ∀ {a : Nat} {D : List Nat}, Ls[a]? = some D → (Ls ++ Yy)[a]? = some D := fun h9 => by
            rw [List.getElem?_append_left (List.getElem?_eq_some_iff.mp h9).1]
            exact h9
          have dn : ∀ {a : Nat} {D : List Nat}, a < Ls.length → (Ls ++ Yy)[a]? = some D → Ls[a]? = some D := fun h8 h9 => by
            rw [List.getElem?_append_left h8] at h9
            exact h9
          have nd := List.nodup_append.mp s6.2.2
          have G := genR_app (Y := Yy) (kd := kd) g1 hat hnx hk0 (fun s hs => by
            rcases s1.2.1 s (s9 s (List.mem_append_right _ hs)) with h9 | h9
            · exact absurd rfl (nd.2.2 s h9 s hs)
            · exact h9)
          refine ihj (kd + 2) le2 (Ls ++ Yy) y3 (by omega) ⟨s2, s3, fr_tr j3 (fr_mono (fun g hg => Or.inr hg) (fr_tr f12 s4)), s5, s6, s7⟩ G (fun a r ha9 hr kd' hk' => pcR_app s7 (g2 a r ha9 (dn (by omega) hr) kd' hk')) (by rw [List.length_append]; omega) (fun a r rl ha9 hr hrl => g4 a r rl ha9 (dn (by omega) hr) (dn g3 hrl)) (by rw [List.length_append]; omega) (fun r hr kd' hk' hlt => ?_)
          have hr := dn g5 hr
          by_cases e : kd' = kd
          · rw [hat] at hr
            cases hr
            subst e
            refine ⟨B, sg2, c9, hnx, fun A' sg' hO => ?_⟩
            obtain ⟨r', q1, q2⟩ := s1.2.2 A' sg' hO
            by_cases hlt : (Ls ++ Yy).length < 310
            · exact Or.inl ⟨r', s10 hlt r' q1, q2⟩
            · exact Or.inr (by omega)
          · exact pcR_app s7 (g6 r hr kd' hk' (by rcases hk' with h9 | h9 | h9 <;> rcases hk0 with h8 | h8 | h8 <;> omega))
      obtain ⟨i1, i2, i3, i4⟩ := id hi
      obtain ⟨j1, j2, j3, j4, j5, j6⟩ := id hj
      refine u_X13_simplify_2 ?_; unfold qm_X13_simplify_2
      refine w_rdF j4 (w_le (by omega) (by omega) (fun h9 => c5 le at9 Ls y hj hi (Or.inl h9)) (fun hat => w_rdF j4 (w_lt (a := 300) (by omega) (by omega) (fun h9 => c5 le at9 Ls y hj hi (Or.inr h9)) (fun h300 => ?_))))
      have e1 : Ls[at9]? = some Ls[at9] := List.getElem?_eq_getElem hat
      have e2 : Ls[le]? = some Ls[le] := List.getElem?_eq_getElem i3
      have w1 := j5.1 at9 _ e1
      have w2 := j5.1 le _ e2
      have wl1 := w1.1
      have wl2 := w2.1
      rw [show (32 : Int32) * nI at9 = nI (32 * at9) from pk_mul 32 at9, show (32 : Int32) * nI le = nI (32 * le) from pk_mul 32 le]
      refine w_cs1 (tr_lesser ml25 ml25 (by omega) (by omega) (by omega) (by omega) w1 w2) (fun a y9 e9 => ?_)
      cases e9
      cases hls : lsr Ls[at9] Ls[le] with
      | false =>
        refine w_ifT rfl ?_
        refine u_X13_simplify_3 ?_; unfold qm_X13_simplify_3
        refine kinds 3 0 le Ls y (by omega) hj i1 i2 i3 (fun a r rl ha9 hr hrl => ?_) hat (fun r hr kd' hk' hlt => absurd hlt (Nat.not_lt_zero _))
        by_cases e : a = at9
        · rw [e, e1] at hr
          rw [e2] at hrl
          cases hr
          cases hrl
          exact hls
        · exact i4 a r rl (by omega) hr hrl
      | true =>
        refine w_ifF (by decide) ?_
        refine u_X13_simplify_3 ?_; unfold qm_X13_simplify_3
        refine kinds 3 0 at9 Ls y (by omega) hj i1 i2 hat (fun a r rl ha9 hr hrl => ?_) hat (fun r hr kd' hk' hlt => absurd hlt (Nat.not_lt_zero _))
        rw [e1] at hrl
        cases hrl
        by_cases e : a = at9
        · rw [e, e1] at hr
          cases hr
          exact lsr_irr
        · cases h9 : lsr r Ls[at9] with
          | false => rfl
          | true =>
            have := i4 a r _ (by omega) hr e2
            rw [lsr_tr h9 hls] at this
            cases this
  have cp : ∀ (j k : Nat) (y : ow_MS), k + j = (tk sg A).length + 1 → fr (fun g => g = 25) (usF z 1 0) y → (∀ i, i < k → y.2.1 25 i = (usF z 1 0).2.1 12 (32 * d + i)) → Tt (fun K i => q_X13_simplify K i 1 (nI d) (nI k) 0 0 y) Q := by
    intro j
    induction j with
    | zero =>
      intro k y hk hf2 hc
      have e12 := (hf2 12 (by omega)).2.1
      refine u_X13_simplify_1 ?_; unfold qm_X13_simplify_1
      rw [show (32 : Int32) * nI d = nI (32 * d) from pk_mul 32 d]
      refine w_rdI ml12 rfl (by omega) (x := nI (tk sg A).length) (by rw [e12]; exact hv.1.2.2.1) (w_ltT (by omega) (by omega) (w_wrF (w_wrF ?_)))
      have f3 : fr (fun g => g = 25 ∨ g = 26 ∨ g = 30) (usF z 1 0) (usF (usF y 26 1) 30 3) := fr_F2 (fr_F2 (fr_mono (fun g hg => by omega) hf2) (by omega)) (by omega)
      have hrow : vRow (usF (usF y 26 1) 30 3) 25 0 A sg := cp_row hv (fun i hi => hc i (by omega))
      have h26 : (usF (usF y 26 1) 30 3).1 26 = nI 1 := rf_ot (by omega) po_usF_at
      refine main 311 0 0 [tk sg A] _ (by omega) ⟨gI_fr f3 (fun g hg => by unfold per; omega) h1, po_usF_at, fr_mono (fun g hg => by unfold fB3; omega) f3, h26, ⟨fun k r hk => ?_, fun j hj => ?_, List.nodup_cons.mpr ⟨List.not_mem_nil, List.nodup_nil⟩⟩, by show 1 ≤ 310; omega⟩ ⟨⟨rfl, fun i r hi => ?_⟩, fun a r ha => absurd ha (Nat.not_lt_zero _), Nat.succ_pos _, fun a r rl ha => absurd ha (Nat.not_lt_zero _)⟩
      · have hk1 : k < 1 := (List.getElem?_eq_some_iff.mp hk).1
        have e : k = 0 := by omega
        subst e
        cases hk
        exact hrow.1
      · have hj : j < 1 := hj
        have e : j = 0 := by omega
        subst e
        exact ⟨A, sg, hrow⟩
      · have h9 : i < 1 := (List.getElem?_eq_some_iff.mp hi).1
        exact Or.inl (by omega)
    | succ j ih =>
      intro k y hk hf2 hc
      have e12 := (hf2 12 (by omega)).2.1
      refine u_X13_simplify_1 ?_; unfold qm_X13_simplify_1
      rw [show (32 : Int32) * nI d = nI (32 * d) from pk_mul 32 d, nI_add, nI_1]
      refine w_rdI ml12 rfl (by omega) (x := nI (tk sg A).length) (by rw [e12]; exact hv.1.2.2.1) (w_ltF (by omega) (by omega) (w_rdI ml12 rfl (by omega) (by rw [e12]) (w_wrI ml25 rfl (by omega) (ih (k + 1) _ (by omega) (fr_I2 hf2 rfl) (fun i hi => ?_)))))
      by_cases hik : i = k
      · rw [hik, po_usI_at]
      · exact rd_ne hik (hc i (by omega))
  exact cp ((tk sg A).length + 1) 0 (usF z 1 0) (by omega) fr_rf (fun i hi => by omega)
end XSI
end
section
/-! 99zzzzzzzzzzzr.xsim2 -/
/-! both sides: simplify -/
section XS2
variable {A A1 A2 A3 : rn_L} {sg sg1 sg2 sg3 : Nat → Bool} {R : ow_NT} {c c1 c2 c3 kd : Nat}
/-- a code and a row of one net that a move makes -/
theorem jn9 {A' : rn_L} {sg' : Nat → Bool} {f : Nat → Nat} {F P : Nat → Int32} {Q : ow_NT} {j : Nat} {Ds : List cdT} {qs : List Nat} {r : List Nat} (hR : nv R) (hp : pm1 R) (hpl : nt_plane R = true) (h6 : A.length ≤ 6) (hne : A ≠ []) (hk : kd < 5) (hO : OM A sg R.1 kd A' sg') (hj : j < mv_cnt R.1 kd) (hmk : mv_mk kd R F P) (hQ : ow_b24 Q.2.2.1) (hB : mv_B kd j Q R F P = true) (hi : isoV A' sg' f (mv_T kd j Q R F P)) (hZ : cpZ (mv_T kd j Q R F P) (np_parts (mv_T kd j Q R F P).1 (mv_T kd j Q R F P).2.2.1.1).2 Ds qs) (hr : nfR A' sg' r) : crP (enC (mv_T kd j Q R F P) Ds qs) r := by
  obtain ⟨m, Pp, hmk9, rfl⟩ := hr
  have hl9 := OM_len hO
  have hnv := (mv_nv hR hk F P Q j hmk hQ hj).2 hB
  obtain ⟨A2, sg2, e1, e2, e3, e4, f', e5⟩ := enc_iso (isoS_iff.mp hi.1) (by omega) hnv hmk9 hZ
  have hpp := mv_pl hR hp hpl hk hQ hj hB
  refine ⟨A2, sg2, _, e2, e3, e1, fun e => ?_, plnA_of e5 hpp.2 hpp.1⟩
  rw [e] at e4
  have : A.length ≠ 0 := fun e9 => hne (List.eq_nil_of_length_eq_zero e9)
  have e4 : 0 = _ := e4
  omega
theorem okL_u (h : okL A c) : ∀ p, p ∈ A.flatten → p.2 < 2 := fun p hp => ((h.1.2 p).mp hp).2
/-- the net of a code is the net of its row -/
theorem same9 (h1 : nxC A1 sg1 c1 R) (e12 : clC sg1 A1 = clC sg2 A2) (h2 : okL A2 c2) (hpl : plnA A2 sg2) (h3 : nxR (tk sg2 A2) A3 sg3 c3) : isoV A3 sg3 idN R ∧ pm1 R ∧ nt_plane R = true ∧ c3 = R.1 ∧ A3 = A2 := by
  obtain ⟨k1, k2, k3, k4⟩ := h1
  obtain ⟨q1, q2, q3⟩ := clC_inj k1 h2 e12
  subst q1
  obtain ⟨r1, r2⟩ := tk_inj A1 A3 (okL_u k1) (fun p hp => ((h3.2.1.2 p).mp hp).2) h3.1
  subst r1
  have hV : isoV A1 sg1 idN R := isoV_of k2 k3.1
  have s1 : ∀ p, p ∈ A1.flatten → sg3 p.1 = sg1 p.1 := fun p hp => by
    rw [← r2 p hp, q3 p.1 ((k1.1.2 p).mp hp).1]
  have s2 : ∀ p, p ∈ A1.flatten → sg2 p.1 = sg1 p.1 := fun p hp => (q3 p.1 ((k1.1.2 p).mp hp).1).symm
  have hp : pm1 R := fun x hx => by
    rw [k4.2 x (by have := k4.1; omega)]
    cases sg1 x
    · exact Or.inl rfl
    · exact Or.inr rfl
  refine ⟨isoV_sg hV s1, hp, hpl _ _ (isoV_sg hV s2) hp, ?_, rfl⟩
  have l1 := okF_len h3.2.1
  have l2 := okF_len k1.1
  have := k4.1
  omega
end XS2
section XS3
variable {Ls : List (List Nat)} {Cs : List cdT} {os : List Nat} {A0 : rn_L} {sg0 : Nat → Bool} {c0 : Nat}
theorem k024_5 {kd : Nat} (h : k024 kd) : kd < 5 := by rcases h with h | h | h <;> omega
theorem row_code (h0 : okL A0 c0) (hne : A0 ≠ []) (hpl : plnA A0 sg0) (hg : genR Ls (tk sg0 A0)) (hc : genC Cs (clC sg0 A0)) (hcl : cloC Cs) : ∀ r, r ∈ Ls → ∃ C, C ∈ Cs ∧ crP C r := by
  have key : ∀ (n i : Nat) r, i ≤ n → Ls[i]? = some r → ∃ C, C ∈ Cs ∧ crP C r := by
    intro n
    induction n with
    | zero =>
      intro i r hi hr
      have e : i = 0 := by omega
      rw [e, hg.1] at hr
      cases hr
      exact ⟨_, List.mem_of_getElem? hc.1, A0, sg0, c0, h0, rfl, rfl, hne, hpl⟩
    | succ n ih =>
      intro i r hi hr
      rcases hg.2 i r hr with e | ⟨i', r', A, sg, c, kd, A', sg', q1, q2, q3, q4, q5, q6⟩
      · exact ih i r (by omega) hr
      · obtain ⟨C', hC', A2, sg2, c2, k1, k2, k3, k4, k5⟩ := ih i' r' (by omega) q2
        obtain ⟨A1, sg1, c1, R, m1, m2, m3⟩ := hcl C' hC' kd q4
        have q39 := q3
        rw [k3] at q3
        obtain ⟨hV, hp, hpn, ec, eA⟩ := same9 m2 (m1.symm.trans k2) k1 k5 q3
        subst eA
        have hk := k024_5 q4
        have mb := mb_all hV hp q39.2.2.2 hpn hk
        rw [ec] at q5
        obtain ⟨j, hj, hall⟩ := mb.2 A' sg' q5
        rcases m3 j hj with ⟨F, P, Q, d1, d2, d3⟩ | ⟨D, hD, hx⟩
        · have := (hall F P Q d1 d2).1
          rw [d3] at this
          cases this
        · obtain ⟨F, P, Q, Ds, qs, d1, d2, d3, d4, rfl⟩ := hD
          obtain ⟨-, f, hf⟩ := hall F P Q d1 d2
          exact ⟨_, hx, jn9 m2.2.2.1 hp hpn q39.2.2.2 k4 hk q5 hj d1 d2 d3 hf d4 q6⟩
  intro r hr
  obtain ⟨i, hi, e⟩ := List.getElem_of_mem hr
  exact key i i r (Nat.le_refl _) (by rw [List.getElem?_eq_getElem hi, e])
theorem code_row (h0 : okL A0 c0) (hne : A0 ≠ []) (hpl : plnA A0 sg0) (hg : genR Ls (tk sg0 A0)) (hc : genC Cs (clC sg0 A0)) (hcl : cloR Ls) : ∀ C, C ∈ Cs → ∃ r, r ∈ Ls ∧ crP C r := by
  have key : ∀ (n i : Nat) C, i ≤ n → Cs[i]? = some C → ∃ r, r ∈ Ls ∧ crP C r := by
    intro n
    induction n with
    | zero =>
      intro i C hi hC
      have e : i = 0 := by omega
      rw [e, hc.1] at hC
      cases hC
      exact ⟨_, List.mem_of_getElem? hg.1, A0, sg0, c0, h0, rfl, rfl, hne, hpl⟩
    | succ n ih =>
      intro i C hi hC
      rcases hc.2 i C hC with e | ⟨i', A1, sg1, c1, R, kd, j, q1, q2, q3, q4, q5, q6⟩
      · exact ih i C (by omega) hC
      · obtain ⟨r', hr', A2, sg2, c2, k1, k2, k3, k4, k5⟩ := ih i' _ (by omega) q2
        obtain ⟨A, sg, c, m1, m2⟩ := hcl r' hr' kd q4
        have m19 := m1
        rw [k3] at m1
        obtain ⟨hV, hp, hpn, ec, eA⟩ := same9 q3 k2 k1 k5 m1
        subst eA
        have hk := k024_5 q4
        have mb := mb_all hV hp m19.2.2.2 hpn hk
        obtain ⟨F, P, Q, Ds, qs, d1, d2, d3, d4, rfl⟩ := q6
        obtain ⟨A', sg', hO, hall⟩ := mb.1 j q5 ⟨F, P, Q, d1, d2, d3⟩
        obtain ⟨-, f, hf⟩ := hall F P Q d1 d2
        obtain ⟨r, r1, r2⟩ := m2 A' sg' (by rw [ec]; exact hO)
        exact ⟨r, r1, jn9 q3.2.2.1 hp hpn m19.2.2.2 k4 hk hO q5 d1 d2 d3 hf d4 r2⟩
  intro C hC
  obtain ⟨i, hi, e⟩ := List.getElem_of_mem hC
  exact key i i C (Nat.le_refl _) (by rw [List.getElem?_eq_getElem hi, e])
theorem rows_le : ∀ (L : List (List Nat)), L.Nodup → (∀ r, r ∈ L → ∃ C, C ∈ Cs ∧ crP C r) → L.length ≤ Cs.length := by
  have key : ∀ (L : List (List Nat)), L.Nodup → (∀ r, r ∈ L → ∃ C, C ∈ Cs ∧ crP C r) → ∃ Ds : List cdT, Ds.length = L.length ∧ Ds.Nodup ∧ ∀ D, D ∈ Ds → D ∈ Cs ∧ ∃ r, r ∈ L ∧ crP D r := by
    intro L
    induction L with
    | nil => exact fun _ _ => ⟨[], rfl, List.nodup_nil, fun D hD => absurd hD List.not_mem_nil⟩
    | cons r L ih =>
      intro hn hL
      obtain ⟨n1, n2⟩ := List.nodup_cons.mp hn
      obtain ⟨Ds, d1, d2, d3⟩ := ih n2 (fun s hs => hL s (List.mem_cons_of_mem _ hs))
      obtain ⟨C, c1, c2⟩ := hL r List.mem_cons_self
      refine ⟨C :: Ds, by rw [List.length_cons, List.length_cons, d1], List.nodup_cons.mpr ⟨fun h9 => ?_, d2⟩, fun D hD => ?_⟩
      · obtain ⟨-, s, s1, s2⟩ := d3 C h9
        rw [crR_r (crP_R c2) (crP_R s2)] at n1
        exact n1 s1
      · rcases List.mem_cons.mp hD with e | hD
        · rw [e]
          exact ⟨c1, r, List.mem_cons_self, c2⟩
        · obtain ⟨a1, s, s1, s2⟩ := d3 D hD
          exact ⟨a1, s, List.mem_cons_of_mem _ s1, s2⟩
  intro L hn hL
  obtain ⟨Ds, d1, d2, d3⟩ := key L hn hL
  have := nodup_le Ds Cs d2 (fun D hD => (d3 D hD).1)
  omega
theorem codes_le (hl : Cs.length = os.length) (ho : ∀ (j s : Nat), os[j]? = some s → s < Cs.length) (hs : sts Cs os) (h : ∀ C, C ∈ Cs → ∃ r, r ∈ Ls ∧ crP C r) : os.length ≤ Ls.length := by
  have key : ∀ n, n ≤ os.length → ∃ Rs : List (List Nat), Rs.length = n ∧ Rs.Nodup ∧ ∀ r, r ∈ Rs → r ∈ Ls ∧ ∃ k, k < n ∧ crP (atC Cs os k) r := by
    intro n
    induction n with
    | zero => exact fun _ => ⟨[], rfl, List.nodup_nil, fun D hD => absurd hD List.not_mem_nil⟩
    | succ n ih =>
      intro hn
      obtain ⟨Rs, d1, d2, d3⟩ := ih (by omega)
      obtain ⟨r, c1, c2⟩ := h _ (at_in hl ho (k := n) (by omega))
      refine ⟨r :: Rs, by rw [List.length_cons, d1], List.nodup_cons.mpr ⟨fun h9 => ?_, d2⟩, fun D hD => ?_⟩
      · obtain ⟨-, k, k1, k2⟩ := d3 r h9
        have e := crR_c (crP_R k2) (crP_R c2)
        have h7 := hs k n k1 (by omega)
        rw [e, cmpC_rf] at h7
        omega
      · rcases List.mem_cons.mp hD with e | hD
        · rw [e]
          exact ⟨c1, n, by omega, c2⟩
        · obtain ⟨a1, k, k1, k2⟩ := d3 D hD
          exact ⟨a1, k, by omega, k2⟩
  obtain ⟨Rs, d1, d2, d3⟩ := key _ (Nat.le_refl _)
  have := nodup_le Rs Ls d2 (fun r hr => (d3 r hr).1)
  omega
end XS3
section XS4
variable {vl : Nat → Nat} {y : ow_MS} {St : plT} {x : Int32}
def sc9 (y : ow_MS) (St : plT) (e : Nat) (C0 : cdT) (r : Nat × Int32 × ow_MS) : Prop := ∃ Cs os, Cs.length = os.length ∧ (∀ (j s : Nat), os[j]? = some s → s < Cs.length) ∧ sts Cs os ∧ 0 < os.length ∧ genC Cs C0 ∧ (os.length ≤ 300 → cloC Cs) ∧ (300 < os.length ∧ r.2.1 = -2 ∧ fr (coP 13000) y r.2.2 ∨ os.length ≤ 300 ∧ r.2.1 = nI e ∧ fr (fun g => cW 1000 g ∨ coP 13000 g) y r.2.2 ∧ ∀ B sgB, clC sgB B = atC Cs os 0 → relC r.2.2 (upP St e (some (B, sgB))))
theorem xc_simplify (hN : gM y) (hC : relC y St) (hS : okS St) : Te (fun K => ce_X11_simplify vl K 0 x y) (fun r => (r.1 = 1 ∧ r.2.2 = y ∧ ∀ d, d < 40 → x = nI d → St d = none) ∨ ∃ d A sg c, d < 40 ∧ x = nI d ∧ St d = some (A, sg) ∧ okL A c ∧ A ≠ [] ∧ plnA A sg ∧ (r.1 = 3 ∧ r.2.2 = y ∧ allF St ∨ ∃ e, lstF St e ∧ r.1 = 0 ∧ sc9 y St e (clC sg A) r)) := by
  refine e_X11_simplify ?_; unfold cm_X11_simplify_0
  refine w_tc0 (xc_need hN.1.1 hC hS) ?_ ?_
  · rintro y1 ⟨h1, rfl⟩
    rcases h1 with h1 | ⟨-, d, A, sg, c, hd, rfl, hSt, hs, hA, hne, hpl⟩
    · exact absurd (show (0 : Nat) = 1 from h1.1) (by decide)
    · refine w_tc1 (xc_free hN.1.1 hC hS) ?_ ?_
      · rintro v y2 ⟨h2, rfl⟩
        rcases h2 with h2 | ⟨-, e, rfl, hlf⟩
        · exact absurd (show (0 : Nat) = 3 from h2.1) (by decide)
        · refine w_cs0 (xc_reach hN hd hs hA) ?_
          rintro y3 ⟨g1, g2, Cs, os, g3, g4, g5, g6, g7⟩
          have hl := g3.2.2.2.1
          have hCl : Cs.length = os.length := g3.1.2.1
          refine w_rdF g3.1.1 (w_le (b := 300) (by omega) (by omega) (fun h300 => ?_) (fun h300 => w_some (Or.inr ⟨d, A, sg, c, hd, rfl, hSt, hA, hne, hpl, Or.inr ⟨e, hlf, rfl, Cs, os, hCl, tabC_os g3.1, g4, g5, g6, g7, Or.inl ⟨h300, rfl, g2⟩⟩⟩)))
          obtain ⟨s, s1, s2, s3, s4⟩ := tab_at g3.1 g5
          have hC3 : relC y3 St := relC_fr g2 (fun q hq h9 => by unfold cW at hq; unfold coP cV at h9; omega) hC
          refine w_crI (tH_4 tH13) nI_0.symm (show 0 < 301 by omega) s2 (w_cs0 (tc_write ch_1000 tH13 (by omega) hlf.1 (show s < 301 by omega) s3 s4 g3.2.2.2.2) ?_)
          rintro y4 ⟨w1, w2, w3, w4⟩
          refine w_some (Or.inr ⟨d, A, sg, c, hd, rfl, hSt, hA, hne, hpl, Or.inr ⟨e, hlf, rfl, Cs, os, hCl, tabC_os g3.1, g4, g5, g6, g7, Or.inr ⟨h300, rfl, fr_tr (fr_mono (fun g hg => Or.inr hg) g2) (fr_mono (fun g hg => Or.inl hg) w4), fun B sgB eB => ?_⟩⟩⟩)
          rw [← eB] at w1
          exact relC_put g1.1.1 hC3 hS w1 w2
      · rintro a v y2 ha ⟨h2, rfl⟩
        rcases h2 with h2 | h2
        · exact w_some (Or.inr ⟨d, A, sg, c, hd, rfl, hSt, hA, hne, hpl, Or.inl ⟨h2.1, rfl, h2.2⟩⟩)
        · exact absurd h2.1 ha
  · rintro a y1 ha ⟨h1, rfl⟩
    rcases h1 with h1 | h1
    · exact w_some (Or.inl ⟨h1.1, rfl, h1.2⟩)
    · exact absurd h1.1 ha
end XS4
section XS5
variable {X : (Nat → Nat → Int32) → Prop} {z y : ow_MS} {vl : Nat → Nat} {x : Int32}
theorem c_simplify (h : rel3 X z y) : Te (fun K => qe_X13_simplify K x z) (fun rr => Te (fun K => ce_X11_simplify vl K 0 x y) (fun rc => rel3 X rr.2 rc.2.2 ∧ ansI [(1, 1), (2, 3)] rr rc)) := by
  obtain ⟨⟨St, k⟩, hM, h2⟩ := id h
  refine te_two (xq_simplify k.1 k.2.2.1) (te_and (tc_simplify (x := x) hM) (xc_simplify hM k.2.2.2.1 k.2.2.2.2)) (fun rr rc hr ⟨⟨hG, _⟩, hc⟩ => ?_)
  have same : ∀ {j k9 : Nat}, rFl X z j rr → (j, k9) ∈ [(1, 1), (2, 3)] → rc.1 = k9 → rc.2.2 = y → rel3 X rr.2 rc.2.2 ∧ ansI [(1, 1), (2, 3)] rr rc := fun hf hm e1 e2 => both_3 h (bo_fail k hf hm e1 (by rw [e2]; exact k.2.1) (by rw [e2]; exact fr_rf) (by rw [e2]; exact k.2.2.2.1))
  rcases hr with ⟨r1, r2⟩ | ⟨d, A, sg, hd, rfl, hSt, hr⟩
  · rcases hc with ⟨c1, c2, -⟩ | ⟨d, A, sg, c, hd, hx, hSt, -⟩
    · exact same r1 (by simp) c1 c2
    · rw [r2 d hd hx] at hSt
      cases hSt
  · rcases hc with ⟨-, -, c2⟩ | ⟨d', A', sg', c, hd', hx, hSt', hA, hne, hpl, hc⟩
    · rw [c2 d hd rfl] at hSt
      cases hSt
    · have ed := nI_inj9 (a := d) (b := d') (by omega) (by omega) hx
      subst ed
      rw [hSt] at hSt'
      cases hSt'
      rcases hr with ⟨r1, r2⟩ | ⟨e, he, Ls, l1, l2, hr⟩
      · rcases hc with ⟨c1, c2, -⟩ | ⟨e, he, -⟩
        · exact same r1 (by simp) c1 c2
        · exact (all_lst r2 he).elim
      · rcases hc with ⟨-, -, c2⟩ | ⟨e', he', c1, Cs, os, m1, m2, m3, m4, m5, m6, hc⟩
        · exact (all_lst c2 he).elim
        · have ee := lst_uni2 he he'
          subst ee
          have cnt1 : os.length ≤ 300 → Ls.length ≤ os.length := fun h9 => by
            have := rows_le (Cs := Cs) Ls l1 (row_code hA hne hpl l2 m5 (m6 h9))
            omega
          have cnt2 : cloR Ls → os.length ≤ Ls.length := fun h9 => codes_le m1 m2 m3 (code_row hA hne hpl l2 m5 h9)
          rcases hr with ⟨n1, n2, n3, n4, n5⟩ | ⟨n1, n2, B, sgB, n3, n4, n5, n6⟩
          · rcases hc with ⟨o1, o2, o3⟩ | ⟨o1, -⟩
            · exact ⟨⟨⟨St, n3, hG.1, relR_fr n5 (by unfold fB3; omega) k.2.2.1, relC_fr o3 (fun q hq h9 => by unfold cW at hq; unfold coP cV at h9; omega) k.2.2.2.1, k.2.2.2.2⟩, hG, rel2_h n5 o3 (fun g hg h9 => by unfold fB3 at hg; unfold r2Z at h9; omega) (fun g hg h9 => by unfold coP cV at hg; unfold r2Y at h9; omega) h2⟩, Or.inl ⟨n4, c1, by rw [n2, o2]⟩⟩
            · have := cnt1 o1
              omega
          · rcases hc with ⟨o1, -⟩ | ⟨o1, o2, o3, o4⟩
            · have := cnt2 n2
              omega
            · obtain ⟨C, hC, hCr⟩ := row_code hA hne hpl l2 m5 (m6 o1) _ n3
              obtain ⟨i, hi, ei⟩ := at_sur m1 m2 m3 hC
              have hmin : crP (atC Cs os 0) (tk sgB B) := by
                by_cases e0 : i = 0
                · rw [e0] at ei
                  rw [ei]
                  exact hCr
                · exfalso
                  obtain ⟨r0, q1, q2⟩ := code_row hA hne hpl l2 m5 n2 _ (at_in m1 m2 m4)
                  have h7 := m3 0 i (by omega) hi
                  rw [ei] at h7
                  have h8 := (crR_lt (crP_R q2) (crP_R hCr)).mpr h7
                  rw [n4 r0 q1] at h8
                  cases h8
              obtain ⟨A9, sg9, c9, t1, t2, t3, t4, t5⟩ := hmin
              obtain ⟨u1, u2⟩ := tk_inj A9 B (okL_u t1) n5 t3.symm
              subst u1
              obtain ⟨v1, v2, v3, v4, v5⟩ := n6 t4
              have eC : clC sgB A9 = atC Cs os 0 := by
                rw [t2]
                exact (clC_tk t1 t1).mpr t3
              have hpB : plnA A9 sgB := fun f9 T9 hV hp9 => t5 f9 T9 (isoV_sg hV u2) hp9
              exact ⟨⟨⟨_, v2, hG.1, v5, o4 A9 sgB eC, okS_put k.2.2.2.2 ⟨t4, hpB, c9, t1⟩⟩, hG, rel2_h v4 o3 (fun g hg h9 => by unfold fB3 at hg; unfold r2Z at h9; omega) (fun g hg h9 => by unfold cW coP cV at hg; unfold r2Y at h9; omega) h2⟩, Or.inl ⟨v3, c1, by rw [v1, o2]⟩⟩
end XS5
end
section
/-! 99zzzzzzzzzzzs.xjon -/
/-! the reference: the numbers of J, exactly -/
def smJ (f : Nat → Int64) : Nat → Int64
  | 0 => 0
  | n + 1 => smJ f n + f n
def jW (l : Nat) : Nat → Int64
  | 0 => if ((nI l - 1) &&& 1) = 0 then 1 else -1
  | t + 1 => (jW l t * ((nI l - 1 - nI t).toInt64)) / ((nI t + 1).toInt64)
def jP (c : Nat) (w : Int) (l t ze : Nat) : Nat := (2 * ((l : Int) - 1) - 4 * t + ze - (c - ze) - 3 * w + 100).toNat
def jQ (c : Nat) (w : Int) (T : Nat → Int64) (k l t ze : Nat) : Int64 := if jP c w l t ze = k then (if (iI w &&& 1) = 0 then T (24 * ze + l) * jW l t else 0 - T (24 * ze + l) * jW l t) else 0
def jZ (c : Nat) (w : Int) (T : Nat → Int64) (k l t n : Nat) : Int64 := smJ (jQ c w T k l t) n
def jY (c : Nat) (w : Int) (T : Nat → Int64) (k l n : Nat) : Int64 := smJ (fun t => jZ c w T k l t (c + 1)) n
def jX (c : Nat) (w : Int) (T : Nat → Int64) (k n : Nat) : Int64 := smJ (fun l => jY c w T k (l + 1) (l + 1)) n
/-- where a state is counted -/
def jI (A : rn_L) (sg : Nat → Bool) (c s : Nat) : Nat := 24 * (c - pc s) + rtsN (lpA A sg (nI s) A.flatten.length) A.flatten.length + eC A
def jN (A : rn_L) (sg : Nat → Bool) (c n k : Nat) : Int64 := Int64.ofNat (((List.range n).map (jI A sg c)).count k)
theorem jN_s {A : rn_L} {sg : Nat → Bool} {c n k : Nat} : jN A sg c (n + 1) k = if k = jI A sg c n then jN A sg c n k + 1 else jN A sg c n k := by
  unfold jN
  rw [List.range_succ, List.map_append, List.count_append]
  by_cases e : k = jI A sg c n
  · rw [if_pos e]
    have : List.count k [jI A sg c n] = 1 := by rw [e]; exact List.count_singleton_self
    show Int64.ofNat (_ + List.count k [jI A sg c n]) = _
    rw [this, Int64.ofNat_add]
    rfl
  · rw [if_neg e]
    have : List.count k [jI A sg c n] = 0 := List.count_eq_zero.mpr (fun h => e (List.mem_singleton.mp h))
    show Int64.ofNat (_ + List.count k [jI A sg c n]) = _
    rw [this, Nat.add_zero]
theorem jn_ip {l t ze c : Nat} {w : Int} (hl : l ≤ 23) (hl1 : 1 ≤ l) (ht : t < l) (hz : ze ≤ c) (hc : c ≤ 12) (h1 : -12 ≤ w) (h2 : w ≤ 12) : jP c w l t ze < 201 ∧ ((((2 * (nI l - 1)) - (4 * nI t)) + nI ze) - (nI c - nI ze) - (3 * iI w)) + 100 = nI (jP c w l t ze) := by
  unfold jP
  refine ⟨by omega, ?_⟩
  rw [nI_iI l, nI_iI t, nI_iI ze, nI_iI c]
  show (((iI 2 * (iI l - iI 1)) - (iI 4 * iI t)) + iI ze) - (iI c - iI ze) - (iI 3 * iI w) + iI 100 = _
  rw [iI_sub, iI_mul, iI_mul, iI_sub, iI_add, iI_sub, iI_sub, iI_mul, iI_sub, iI_add]
  exact iI_nI (by omega)
section XJN
variable {z : ow_MS}
theorem xm_makeJones {n : Nat} {A : rn_L} {sg : Nat → Bool} (hn : mw_net n) (hA : oNet z n A sg) {c : Nat} (hok : okF A.flatten c) (hc : c ≤ 12) : Te (fun K => qe_X13_makeJones K n z) (fun z1 => fr (fun g => g = 47 ∨ g = 48 ∨ g = 51) z z1 ∧ ∀ k, k < 201 → z1.2.2 48 k = jX c (wrN A sg A.flatten.length) (jN A sg c (2 ^ c)) k 23) := by
  have hV := okF_len hok
  have hC := hA.2.2.2
  have hmn := net_mod hn
  have hov := ovs_le hok
  have hw := wrN_le (A := A) (sg := sg) A.flatten.length
  have hne := neC_eC A
  generalize hwn : wrN A sg A.flatten.length = w at hw
  have hw1 : -12 ≤ w := by omega
  have hw2 : w ≤ 12 := by omega
  obtain ⟨T, hT⟩ : ∃ T, T = jN A sg c (2 ^ c) := ⟨_, rfl⟩
  let Q : ow_MS → Prop := fun z1 => fr (fun g => g = 47 ∨ g = 48 ∨ g = 51) z z1 ∧ ∀ k, k < 201 → z1.2.2 48 k = jX c w T k 23
  have oA : ∀ {y : ow_MS}, fr (fun g => g = 47 ∨ g = 48 ∨ g = 51) z y → oNet y n A sg := fun hf => oNet_fr hf (fun g hg => by omega) hA
  have c4 : ∀ (d l : Nat) (y : ow_MS), l + d = 24 → 1 ≤ l → fr (fun g => g = 47 ∨ g = 48 ∨ g = 51) z y → (∀ k, k < 312 → y.2.2 51 k = T k) → (∀ k, k < 201 → y.2.2 48 k = jX c w T k (l - 1)) → Tt (fun K i => q_X13_makeJones K i 4 (nI c) (nI (eC A)) (iI w) (nI l) 0 0 0 0 0 0 0 n 0 0 0 y) Q := by
    intro d
    induction d with
    | zero =>
      intro l y hl hl1 hf h51 h48
      have e : l = 24 := by omega
      rw [e] at h48
      refine u_X13_makeJones_4 ?_; unfold qm_X13_makeJones_4
      exact w_leT (a := 24) (by omega) (by omega) (w_some ⟨hf, h48⟩)
    | succ d ih =>
      intro l y hl hl1 hf h51 h48
      obtain ⟨l1, rfl⟩ : ∃ l1, l = l1 + 1 := ⟨l - 1, by omega⟩
      rw [Nat.add_sub_cancel] at h48
      obtain ⟨l, hll⟩ : ∃ l, l = l1 + 1 := ⟨_, rfl⟩
      rw [← hll] at hl hl1 ⊢
      have c6 : ∀ (d2 t : Nat) (w6 w8 : Int64) (y : ow_MS), t + d2 = l → w8 = jW l t → fr (fun g => g = 47 ∨ g = 48 ∨ g = 51) z y → (∀ k, k < 312 → y.2.2 51 k = T k) → (∀ k, k < 201 → y.2.2 48 k = jX c w T k l1 + jY c w T k l t) → Tt (fun K i => q_X13_makeJones K i 6 (nI c) (nI (eC A)) (iI w) (nI l) (nI t) 0 0 0 w6 w8 0 n 0 0 0 y) Q := by
        intro d2
        induction d2 with
        | zero =>
          intro t w6 w8 y ht hw8 hf h51 h48
          have e : t = l1 + 1 := by omega
          refine u_X13_makeJones_6 ?_; unfold qm_X13_makeJones_6
          rw [nI_1]
          refine w_leT (by omega) (by omega) (ih (l + 1) y (by omega) (by omega) hf h51 (fun k hk => ?_))
          rw [h48 k hk, e, Nat.add_sub_cancel, hll]
          rfl
        | succ d2 ih2 =>
          intro t w6 w8 y ht hw8 hf h51 h48
          have c7 : ∀ (d3 ze : Nat) (y : ow_MS), ze + d3 = c + 1 → fr (fun g => g = 47 ∨ g = 48 ∨ g = 51) z y → (∀ k, k < 312 → y.2.2 51 k = T k) → (∀ k, k < 201 → y.2.2 48 k = jX c w T k l1 + jY c w T k l t + jZ c w T k l t ze) → Tt (fun K i => q_X13_makeJones K i 7 (nI c) (nI (eC A)) (iI w) (nI l) (nI t) ((2 * (nI l - 1)) - (4 * nI t)) (nI ze) 0 w6 w8 0 n 0 0 0 y) Q := by
            intro d3
            induction d3 with
            | zero =>
              intro ze y hz hf h51 h48
              have hnz : (nI (t + 1)).toInt64 ≠ 0 := by
                rw [nI_l (by omega)]
                exact fun e => by
                  have := (pk_lEQ (a := t + 1) (b := 0) (by omega) (by omega)).mp e
                  omega
              refine u_X13_makeJones_7 ?_; unfold qm_X13_makeJones_7
              rw [show nI t + 1 = nI (t + 1) from nI_1 _]
              refine w_ltT (by omega) (by omega) (w_nzJ hnz (ih2 (t + 1) _ _ y (by omega) ?_ hf h51 (fun k hk => ?_)))
              · rw [hw8, ← nI_1 t]
                rfl
              · have e : ze = c + 1 := by omega
                rw [h48 k hk, e, Int64.add_assoc]
                rfl
            | succ d3 ih3 =>
              intro ze y hz hf h51 h48
              obtain ⟨hk, ek⟩ := jn_ip (l := l) (t := t) (ze := ze) (c := c) (w := w) (by omega) hl1 (by omega) (by omega) hc hw1 hw2
              obtain ⟨k, hkk⟩ : ∃ k, k = jP c w l t ze := ⟨_, rfl⟩
              rw [← hkk] at hk ek
              have c9 : ∀ (x13 : Int32) (w14 : Int64) (y : ow_MS), fr (fun g => g = 47 ∨ g = 48 ∨ g = 51) z y → (∀ k, k < 312 → y.2.2 51 k = T k) → (∀ k, k < 201 → y.2.2 48 k = jX c w T k l1 + jY c w T k l t + (jZ c w T k l t ze + jQ c w T k l t ze)) → Tt (fun K i => q_X13_makeJones K i 9 (nI c) (nI (eC A)) (iI w) (nI l) (nI t) ((2 * (nI l - 1)) - (4 * nI t)) (nI ze) x13 w6 w8 w14 n 0 0 0 y) Q := by
                intro x13 w14 y hf h51 h48
                refine u_X13_makeJones_9 ?_; unfold qm_X13_makeJones_9
                rw [show nI ze + 1 = nI (ze + 1) from nI_1 _]
                exact ih3 (ze + 1) y (by omega) hf h51 h48
              have c8 : ∀ (x13 : Int32) (w14 y0 : Int64), (if (iI w &&& 1) = 0 then T (24 * ze + l) * jW l t else 0 - T (24 * ze + l) * jW l t) = y0 → Tt (fun K i => q_X13_makeJones K i 8 (nI c) (nI (eC A)) (iI w) (nI l) (nI t) ((2 * (nI l - 1)) - (4 * nI t)) (nI ze) x13 w6 w8 w14 n (nI k) y0 (y.2.2 48 k) y) Q := by
                intro x13 w14 y0 hy0
                refine u_X13_makeJones_8 ?_; unfold qm_X13_makeJones_8
                refine w_wrJ ml48 rfl hk (c9 _ _ _ (fr_J2 hf (Or.inr (Or.inl rfl))) (fun k' hk' => h51 k' hk') (fun k' hk' => ?_))
                by_cases e : k' = k
                · rw [e, usJ_at, h48 k hk, Int64.add_assoc]
                  unfold jQ
                  rw [if_pos hkk.symm, hy0]
                · rw [usJ_ne e, h48 k' hk']
                  unfold jQ
                  rw [if_neg (fun h9 => e (by rw [hkk, h9])), Int64.add_zero]
              refine u_X13_makeJones_7 ?_; unfold qm_X13_makeJones_7
              rw [ek]
              refine w_ltF (by omega) (by omega) (w_rdJ (i := 24 * ze + l) ml51 (by rw [show (24 : Int32) * nI ze = nI (24 * ze) from pk_mul 24 ze, nI_add]) (by omega) (h51 _ (by omega)) (w_if (fun h0 => c9 _ _ _ hf h51 (fun k' hk' => ?_)) (fun _ => w_rdJ ml48 rfl hk rfl (w_if (fun hw0 => c8 _ _ _ (by rw [if_pos hw0, hw8])) (fun hw0 => c8 _ _ _ (by rw [if_neg hw0, hw8]))))))
              have e0 : T (24 * ze + l) = 0 := (lg_cmp_eq _ _).mp h0
              rw [h48 k' hk']
              unfold jQ
              rw [e0, Int64.zero_mul, Int64.sub_self, ite_self, ite_self, Int64.add_zero]
          refine u_X13_makeJones_6 ?_; unfold qm_X13_makeJones_6
          refine w_leF (by omega) (by omega) (c7 (c + 1) 0 y (by omega) hf h51 (fun k hk => ?_))
          rw [h48 k hk]
          exact (Int64.add_zero _).symm
      have c5 : ∀ (y0 : Int64), y0 = jW l 0 → Tt (fun K i => q_X13_makeJones K i 5 (nI c) (nI (eC A)) (iI w) (nI l) 0 0 0 0 0 0 0 n 0 y0 0 y) Q := by
        intro y0 hy0
        refine u_X13_makeJones_5 ?_; unfold qm_X13_makeJones_5
        refine c6 l 0 _ _ y (by omega) hy0 hf h51 (fun k hk => ?_)
        rw [h48 k hk]
        exact (Int64.add_zero _).symm
      refine u_X13_makeJones_4 ?_; unfold qm_X13_makeJones_4
      exact w_leF (a := 24) (by omega) (by omega) (w_if (fun h9 => c5 _ (if_pos h9).symm) (fun h9 => c5 _ (if_neg h9).symm))
  have c3 : ∀ (d k : Nat) (y : ow_MS), k + d = 201 → fr (fun g => g = 47 ∨ g = 48 ∨ g = 51) z y → (∀ k, k < 312 → y.2.2 51 k = T k) → (∀ i, i < k → y.2.2 48 i = 0) → Tt (fun K i => q_X13_makeJones K i 3 (nI c) (nI (eC A)) (nI k) 0 0 0 0 0 0 0 0 n 0 0 0 y) Q := by
    intro d
    induction d with
    | zero =>
      intro k y hk hf h51 h48
      refine u_X13_makeJones_3 ?_; unfold qm_X13_makeJones_3
      refine w_ltT (a := 200) (by omega) (by omega) (w_cs1 (tp_writhe2 hn (oA hf)) (fun a y1 e => ?_))
      cases e
      rw [hwn]
      exact c4 23 1 y (by omega) (by omega) hf h51 (fun i hi => h48 i (by omega))
    | succ d ih =>
      intro k y hk hf h51 h48
      refine u_X13_makeJones_3 ?_; unfold qm_X13_makeJones_3
      rw [nI_1]
      refine w_ltF (a := 200) (by omega) (by omega) (w_wrJ ml48 rfl (by omega) (ih (k + 1) _ (by omega) (fr_J2 hf (Or.inr (Or.inl rfl))) (fun i hi => h51 i hi) (fun i hi => ?_)))
      by_cases e : i = k
      · rw [e, usJ_at]
      · rw [usJ_ne e]
        exact h48 i (by omega)
  have h2c : 2 ^ c ≤ 4096 := two_mono (b := 12) hc
  have c2 : ∀ (d s : Nat) (y : ow_MS), s + d = 2 ^ c → fr (fun g => g = 47 ∨ g = 48 ∨ g = 51) z y → (∀ k, k < 312 → y.2.2 51 k = jN A sg c s k) → Tt (fun K i => q_X13_makeJones K i 2 (nI c) (nI (eC A)) (nI s) 0 0 0 0 0 0 0 0 n 0 0 0 y) Q := by
    intro d
    induction d with
    | zero =>
      intro s y hs hf h51
      have e : s = 2 ^ c := by omega
      rw [e, ← hT] at h51
      refine u_X13_makeJones_2 ?_; unfold qm_X13_makeJones_2
      rw [shl1 (by omega)]
      exact w_leT (by omega) (by omega) (c3 201 0 y (by omega) hf h51 (fun i hi => absurd hi (Nat.not_lt_zero _)))
    | succ d ih =>
      intro s y hs hf h51
      have hpc := pc_le (c := c) (k := s) (by omega)
      refine u_X13_makeJones_2 ?_; unfold qm_X13_makeJones_2
      rw [shl1 (by omega)]
      refine w_leF (by omega) (by omega) (w_cs0 (tp_loops (st := nI s) hn (oA hf)) (fun y1 ⟨u1, f1⟩ => ?_))
      have hf1 : fr (fun g => g = 47 ∨ g = 48 ∨ g = 51) z y1 := fr_tr hf (fr_mono (fun g hg => Or.inl hg) f1)
      have hlp := loops_le (sg := sg) (st := nI s) hok (by omega)
      refine w_cs1 (tp_countL (oA hf1).1.V (by omega) u1) (fun a y2 e => ?_)
      cases e
      obtain ⟨r, hr9⟩ : ∃ r, r = rtsN (lpA A sg (nI s) A.flatten.length) A.flatten.length := ⟨_, rfl⟩
      rw [← hr9] at hlp ⊢
      have ei : ((24 : Int32) * (nI c - ow_bc (nI s))) + nI r + nI (eC A) = nI (24 * (c - pc s) + r + eC A) := by
        rw [bc_pc (by omega), pk_sub hpc, show (24 : Int32) * nI (c - pc s) = nI (24 * (c - pc s)) from pk_mul 24 _, nI_add, nI_add]
      rw [ei, nI_1]
      have eI : jI A sg c s = 24 * (c - pc s) + r + eC A := by
        unfold jI
        rw [hr9]
      rw [← eI]
      have hI : jI A sg c s < 312 := by rw [eI]; omega
      have h51' : ∀ k, k < 312 → y1.2.2 51 k = jN A sg c s k := fun k hk => by
        rw [(f1 51 (by omega)).2.2]
        exact h51 k hk
      refine w_rdJ ml51 rfl (by omega) (h51' _ hI) (w_wrJ ml51 rfl (by omega) (ih (s + 1) _ (by omega) (fr_J2 hf1 (Or.inr (Or.inr rfl))) (fun k hk => ?_)))
      rw [jN_s]
      by_cases e : k = jI A sg c s
      · rw [if_pos e, e, usJ_at]
      · rw [if_neg e, usJ_ne e]
        exact h51' k hk
  have c1 : ∀ (d k : Nat) (y : ow_MS), k + d = 312 → fr (fun g => g = 47 ∨ g = 48 ∨ g = 51) z y → (∀ i, i < k → y.2.2 51 i = 0) → Tt (fun K i => q_X13_makeJones K i 1 (nI c) (nI (eC A)) (nI k) 0 0 0 0 0 0 0 0 n 0 0 0 y) Q := by
    intro d
    induction d with
    | zero =>
      intro k y hk hf h51
      refine u_X13_makeJones_1 ?_; unfold qm_X13_makeJones_1
      refine w_leT (a := 312) (by omega) (by omega) (c2 (2 ^ c) 0 y (by omega) hf (fun i hi => ?_))
      rw [h51 i (by omega)]
      rfl
    | succ d ih =>
      intro k y hk hf h51
      refine u_X13_makeJones_1 ?_; unfold qm_X13_makeJones_1
      rw [nI_1]
      refine w_leF (a := 312) (by omega) (by omega) (w_wrJ ml51 rfl (by omega) (ih (k + 1) _ (by omega) (fr_J2 hf (Or.inr (Or.inr rfl))) (fun i hi => ?_)))
      by_cases e : i = k
      · rw [e, usJ_at]
      · rw [usJ_ne e]
        exact h51 i (by omega)
  refine e_X13_makeJones ?_
  refine u_X13_makeJones_0 ?_; unfold qm_X13_makeJones_0
  refine w_rdF hA.1.V (w_nzI (by decide) (w_cs1 (tp_circles2 hn (by omega) (by omega) hA.1.1) (fun a y e => ?_)))
  cases e
  rw [hV, show nI (2 * c) / 2 = nI c from by rw [show nI (2 * c) / 2 = nI (2 * c / 2) from pk_div (d := 2) (by omega) (by omega) (by omega)]; congr 1; omega]
  have fin := c1 312 0 z (by omega) fr_rf (fun i hi => absurd hi (Nat.not_lt_zero _))
  refine w_mono fin (fun r hr => ⟨hr.1, fun k hk => ?_⟩)
  rw [hr.2 k hk, hT]
end XJN
end
section
/-! 99zzzzzzzzzzzt.xjon2 -/
/-! the states in the order of their numbers -/
def bxS (b : Nat → Bool) (x s k : Nat) : Bool := if k < x then b k else decide (s / 2 ^ (k - x) % 2 = 1)
def tbF (S : ow_NP) (G : Nat → Int32) (ci n : Nat) (b : Nat → Bool) : Nat := 24 * onC b n + (ci + rtsN (uPx S G b n) (2 * n))
theorem ev_od (F : Nat → Nat) : ∀ n, ((List.range (2 * n)).map F).Perm ((List.range n).map (fun s => F (2 * s)) ++ (List.range n).map (fun s => F (2 * s + 1)))
  | 0 => List.Perm.refl _
  | n + 1 => by
    have ih := ev_od F n
    refine List.perm_iff_count.mpr (fun a => ?_)
    have h := List.perm_iff_count.mp ih a
    rw [show 2 * (n + 1) = 2 * n + 1 + 1 by omega, List.range_succ, List.range_succ, List.range_succ (n := n)]
    simp only [List.map_append, List.count_append, List.map_cons, List.map_nil] at h ⊢
    omega
theorem tbF_c {S : ow_NP} {G : Nat → Int32} {ci n : Nat} {b b' : Nat → Bool} (h : ∀ k, k < n → b k = b' k) : tbF S G ci n b = tbF S G ci n b' := by
  obtain ⟨h1, h2⟩ := uPx_c (S := S) (G := G) n h
  unfold tbF
  rw [h1, h2]
theorem tbL_pm {S : ow_NP} {G : Nat → Int32} {ci : Nat} : ∀ (d x : Nat) (b : Nat → Bool), (tbL S G ci d x b).Perm ((List.range (2 ^ d)).map (fun s => tbF S G ci (x + d) (bxS b x s)))
  | 0, x, b => by
    have e : tbF S G ci x b = tbF S G ci (x + 0) (bxS b x 0) := tbF_c (n := x) (fun k hk => by unfold bxS; rw [if_pos hk])
    show [tbF S G ci x b].Perm [tbF S G ci (x + 0) (bxS b x 0)]
    rw [e]
  | d + 1, x, b => by
    have h0 := tbL_pm (S := S) (G := G) (ci := ci) d (x + 1) (seB b x false)
    have h1 := tbL_pm (S := S) (G := G) (ci := ci) d (x + 1) (seB b x true)
    have key : ∀ (v : Bool) (s : Nat), (fun s => tbF S G ci (x + 1 + d) (bxS (seB b x v) (x + 1) s)) s = tbF S G ci (x + (d + 1)) (bxS b x (2 * s + if v then 1 else 0)) := by
      intro v s
      show tbF S G ci (x + 1 + d) _ = _
      rw [show x + 1 + d = x + (d + 1) by omega]
      refine tbF_c (fun k hk => ?_)
      unfold bxS seB
      by_cases e1 : k < x
      · rw [if_pos (show k < x + 1 by omega), if_pos e1, if_neg (show ¬ k = x by omega)]
      · rw [if_neg e1]
        by_cases e2 : k = x
        · rw [if_pos (show k < x + 1 by omega), if_pos e2, e2, Nat.sub_self]
          cases v
          · show false = decide ((2 * s + 0) / 1 % 2 = 1)
            rw [decide_eq_false (by omega)]
          · show true = decide ((2 * s + 1) / 1 % 2 = 1)
            rw [decide_eq_true (by omega)]
        · rw [if_neg (show ¬ k < x + 1 by omega)]
          have e3 : k - x = k - (x + 1) + 1 := by omega
          rw [e3, Nat.pow_succ, Nat.mul_comm (2 ^ (k - (x + 1))) 2, ← Nat.div_div_eq_div_mul]
          have e4 : (2 * s + if v = true then 1 else 0) / 2 = s := by
            cases v
            · show (2 * s + 0) / 2 = s
              omega
            · show (2 * s + 1) / 2 = s
              omega
          rw [e4]
    have e0 : (List.range (2 ^ d)).map (fun s => tbF S G ci (x + 1 + d) (bxS (seB b x false) (x + 1) s)) = (List.range (2 ^ d)).map (fun s => tbF S G ci (x + (d + 1)) (bxS b x (2 * s))) := List.map_congr_left (fun s _ => key false s)
    have e1 : (List.range (2 ^ d)).map (fun s => tbF S G ci (x + 1 + d) (bxS (seB b x true) (x + 1) s)) = (List.range (2 ^ d)).map (fun s => tbF S G ci (x + (d + 1)) (bxS b x (2 * s + 1))) := List.map_congr_left (fun s _ => key true s)
    rw [e0] at h0
    rw [e1] at h1
    have hp : 2 ^ (d + 1) = 2 * 2 ^ d := by rw [Nat.pow_succ]; omega
    rw [hp]
    exact (List.Perm.append h0 h1).trans (ev_od (fun s => tbF S G ci (x + (d + 1)) (bxS b x s)) (2 ^ d)).symm
end
section
/-! 99zzzzzzzzzzzu.xjon3 -/
/-! both sides count the same states -/
theorem onC_pcF {b : Nat → Bool} {s : Nat} : ∀ n m, pcF (n + m) s = onC (bxS b 0 s) n + pcF m (s / 2 ^ n)
  | 0, m => by
    rw [Nat.zero_add, Nat.pow_zero, Nat.div_one]
    exact (Nat.zero_add _).symm
  | n + 1, m => by
    rw [show n + 1 + m = n + (m + 1) by omega, onC_pcF n (m + 1)]
    show onC (bxS b 0 s) n + (s / 2 ^ n % 2 + pcF m (s / 2 ^ n / 2)) = onC (bxS b 0 s) n + (if bxS b 0 s n = true then 1 else 0) + pcF m (s / 2 ^ (n + 1))
    have e2 : s / 2 ^ n / 2 = s / 2 ^ (n + 1) := by rw [Nat.div_div_eq_div_mul, Nat.pow_succ]
    rw [e2]
    have e : s / 2 ^ n % 2 = if bxS b 0 s n = true then 1 else 0 := by
      unfold bxS
      rw [if_neg (Nat.not_lt_zero _), Nat.sub_zero]
      by_cases h : s / 2 ^ n % 2 = 1
      · rw [if_pos (decide_eq_true h), h]
      · rw [if_neg (fun h9 => h (of_decide_eq_true h9))]
        omega
    rw [e]
    omega
theorem pcF_0 : ∀ m, pcF m 0 = 0
  | 0 => rfl
  | m + 1 => by
    show 0 % 2 + pcF m (0 / 2) = 0
    rw [Nat.zero_div, pcF_0 m]
theorem onC_pc {b : Nat → Bool} {s c : Nat} (hs : s < 2 ^ c) (hc : c ≤ 32) : onC (bxS b 0 s) c = pc s := by
  have h := onC_pcF (b := b) (s := s) c (32 - c)
  rw [show c + (32 - c) = 32 by omega, Nat.div_eq_of_lt hs, pcF_0, Nat.add_zero] at h
  exact h.symm
theorem tb_jI {A : rn_L} {sg : Nat → Bool} {c s : Nat} {S : ow_NP} {G : Nat → Int32} {b : Nat → Bool} (hj : jnN A sg c S G) (hs : s < 2 ^ c) : ∃ L, L < 24 ∧ pc s ≤ c ∧ tbF S G (cirs A) c (bxS b 0 s) = 24 * pc s + L ∧ jI A sg c s = 24 * (c - pc s) + L := by
  obtain ⟨h1, h2, h3, h4⟩ := hj
  have hc : c ≤ 12 := h1.2.2.2.1
  have h2c : 2 ^ c ≤ 4096 := two_mono (b := 12) hc
  have hal : ∀ v, v < A.flatten.length → uns A v = 0 → alS sg (nI s) (crs A v) = alB G (bxS b 0 s) (crs A v) := by
    intro v hv hu
    have hx : crs A v < c := ((h1.1.2 _).mp (vAt_mem hv)).1
    unfold alS alB sgP bxS
    rw [gbit (show s < 2 ^ 24 by omega) (by omega), if_neg (Nat.not_lt_zero _), Nat.sub_zero, h4 _ hx]
    rcases (show s / 2 ^ crs A v % 2 = 0 ∨ s / 2 ^ crs A v % 2 = 1 by omega) with e | e <;> rw [e] <;> cases sg (crs A v) <;> decide
  have hl := loops_eq (st := nI s) (b := bxS b 0 s) h2 h3 hal
  have hle := loops_le (sg := sg) (st := nI s) h1.1 (by omega)
  have hne := neC_eC A
  have h6 := h1.2.2.2.2
  have hce := cirs_eC A
  refine ⟨cirs A + rtsN (lpA A sg (nI s) A.flatten.length) A.flatten.length, by omega, pc_le hs, ?_, ?_⟩
  · unfold tbF
    rw [onC_pc hs (by omega), hl]
  · unfold jI
    omega
theorem ct_map {f g : Nat → Nat} {a b : Nat} : ∀ L : List Nat, (∀ s, s ∈ L → (f s = a ↔ g s = b)) → (L.map f).count a = (L.map g).count b
  | [], _ => rfl
  | s :: L, h => by
    have ih := ct_map L (fun t ht => h t (List.mem_cons_of_mem _ ht))
    have hs := h s List.mem_cons_self
    rw [List.map_cons, List.map_cons, List.count_cons, List.count_cons, ih]
    by_cases e : f s = a
    · rw [if_pos (by simpa using e), if_pos (by simpa using hs.mp e)]
    · rw [if_neg (by simpa using e), if_neg (by simpa using fun h9 => e (hs.mpr h9))]
/-- the class's row of states with o ones is the reference's row with c - o noughts -/
theorem tb_jN {A : rn_L} {sg : Nat → Bool} {c o l : Nat} {S : ow_NP} {G : Nat → Int32} (hj : jnN A sg c S G) (ho : o ≤ c) (hl : l < 24) : jN A sg c (2 ^ c) (24 * (c - o) + l) = Int64.ofNat ((tbL S G (cirs A) c 0 (fun _ => false)).count (24 * o + l)) := by
  unfold jN
  congr 1
  rw [(tbL_pm (S := S) (G := G) (ci := cirs A) c 0 (fun _ => false)).count_eq]
  refine (ct_map (List.range (2 ^ c)) (fun s hs => ?_)).symm
  obtain ⟨L, h1, h2, h3, h4⟩ := tb_jI (b := fun _ => false) hj (List.mem_range.mp hs)
  rw [Nat.zero_add, h3, h4]
  omega
end
section
/-! 99zzzzzzzzzzzv.xjon4 -/
/-! the reference's weights are binomials -/
def binN : Nat → Nat → Nat
  | _, 0 => 1
  | 0, _ + 1 => 0
  | n + 1, k + 1 => binN n k + binN n (k + 1)
theorem jW_tab : ∀ m : Fin 23, ∀ t : Fin 23, t.val ≤ m.val → jW (m.val + 1) t.val = if m.val % 2 = 0 then Int64.ofNat (binN m.val t.val) else - Int64.ofNat (binN m.val t.val) := by decide +kernel
theorem jW_bn {m t : Nat} (hm : m < 23) (ht : t ≤ m) : jW (m + 1) t = if m % 2 = 0 then Int64.ofNat (binN m t) else - Int64.ofNat (binN m t) := jW_tab ⟨m, hm⟩ ⟨t, by omega⟩ ht
end
section
/-! 99zzzzzzzzzzzw.xjon5 -/
/-! the sums of both sides -/
theorem smI_c {f g : Nat → Int32} : ∀ n, (∀ i, i < n → f i = g i) → smI f n = smI g n
  | 0, _ => rfl
  | n + 1, h => by
    show smI f n + f n = smI g n + g n
    rw [smI_c n (fun i hi => h i (by omega)), h n (by omega)]
theorem smI_z {f : Nat → Int32} : ∀ n, (∀ i, i < n → f i = 0) → smI f n = 0
  | 0, _ => rfl
  | n + 1, h => by
    show smI f n + f n = 0
    rw [smI_z n (fun i hi => h i (by omega)), h n (by omega), Int32.add_zero]
theorem smI_ad {f g : Nat → Int32} : ∀ n, smI (fun i => f i + g i) n = smI f n + smI g n
  | 0 => (Int32.add_zero _).symm
  | n + 1 => by
    show smI (fun i => f i + g i) n + (f n + g n) = (smI f n + f n) + (smI g n + g n)
    rw [smI_ad n, Int32.add_assoc, Int32.add_assoc, ← Int32.add_assoc (smI g n), Int32.add_comm (smI g n) (f n), Int32.add_assoc]
theorem smI_ng {f : Nat → Int32} : ∀ n, smI (fun i => - f i) n = - smI f n
  | 0 => Int32.neg_zero.symm
  | n + 1 => by
    show smI (fun i => - f i) n + - f n = - (smI f n + f n)
    rw [smI_ng n, Int32.neg_add, Int32.sub_eq_add_neg]
theorem smI_sw {F : Nat → Nat → Int32} {m : Nat} : ∀ n, smI (fun i => smI (F i) m) n = smI (fun j => smI (fun i => F i j) n) m
  | 0 => (smI_z m (fun i _ => rfl)).symm
  | n + 1 => by
    show smI (fun i => smI (F i) m) n + smI (F n) m = smI (fun j => smI (fun i => F i j) n + F n j) m
    rw [smI_sw n, smI_ad]
theorem smI_fs {f : Nat → Int32} : ∀ n, smI f (n + 1) = f 0 + smI (fun i => f (i + 1)) n
  | 0 => by
    show (0 : Int32) + f 0 = f 0 + 0
    rw [Int32.zero_add, Int32.add_zero]
  | n + 1 => by
    show smI f (n + 1) + f (n + 1) = f 0 + (smI (fun i => f (i + 1)) n + f (n + 1))
    rw [smI_fs n, Int32.add_assoc]
theorem smI_rv {f : Nat → Int32} : ∀ c, smI (fun i => f (c - i)) (c + 1) = smI f (c + 1)
  | 0 => rfl
  | c + 1 => by
    rw [smI_fs]
    show f (c + 1) + smI (fun i => f (c + 1 - (i + 1))) (c + 1) = smI f (c + 1) + f (c + 1)
    rw [smI_c (g := fun i => f (c - i)) (c + 1) (fun i hi => by rw [show c + 1 - (i + 1) = c - i by omega]), smI_rv c, Int32.add_comm]
theorem smI_1 {f : Nat → Int32} {a : Nat} : ∀ n, (∀ i, i < n → i ≠ a → f i = 0) → a < n → smI f n = f a
  | 0, _, h => absurd h (Nat.not_lt_zero _)
  | n + 1, h, ha => by
    show smI f n + f n = f a
    by_cases e : a = n
    · rw [e, smI_z n (fun i hi => h i (by omega) (by omega)), Int32.zero_add]
    · rw [smI_1 n (fun i hi => h i (by omega)) (by omega), h n (by omega) (fun h9 => e h9.symm), Int32.add_zero]
theorem smJ_I {f : Nat → Int64} : ∀ n, (smJ f n).toInt32 = smI (fun i => (f i).toInt32) n
  | 0 => rfl
  | n + 1 => by
    show (smJ f n + f n).toInt32 = smI (fun i => (f i).toInt32) n + (f n).toInt32
    rw [Int64.toInt32_add, smJ_I n]
/-- what the states with o ones and m + 1 loops give at the power x, by the t-th binomial -/
def jE (c : Nat) (w x : Int) (N : Nat → Nat) (o m t : Nat) : Int32 := if (c : Int) - 2 * o + 2 * m - 4 * t - 3 * w = x then (if m % 2 = 0 then nI (N (24 * o + (m + 1))) * nI (binN m t) else -(nI (N (24 * o + (m + 1))) * nI (binN m t))) else 0
theorem jFt_int {c o m : Nat} {w : Int} {x : Int32} (hc : c ≤ 12) (ho : o ≤ c) (hm : m < 23) (h1 : -12 ≤ w) (h2 : w ≤ 12) : jFt c (x.toInt64 + ((3 * iI w).toInt64)) o m = Int64.ofInt ((c : Int) - 2 * o + 2 * m - x.toInt - 3 * w) := by
  have e1 : x.toInt64 = Int64.ofInt x.toInt := by
    have := Int32.toInt64_ofInt (n := x.toInt) (Int32.minValue_le_toInt x) (Int32.toInt_le x)
    rw [Int32.ofInt_toInt] at this
    exact this
  have e2 : (3 * iI w).toInt64 = Int64.ofInt (3 * w) := by
    rw [show (3 : Int32) * iI w = iI (3 * w) from iI_mul 3 w]
    exact Int32.toInt64_ofInt (by show (-2147483648 : Int) ≤ _; omega) (by show _ ≤ (2147483647 : Int); omega)
  have e3 : ((nI c - (2 * nI o)) + (2 * (nI (m + 1) - 1))).toInt64 = Int64.ofInt ((c : Int) - 2 * o + 2 * m) := by
    rw [show nI (m + 1) - 1 = nI m from pk_sub (a := m + 1) (b := 1) (by omega), nI_iI c, nI_iI o, nI_iI m]
    show ((iI c - (iI 2 * iI o)) + (iI 2 * iI m)).toInt64 = _
    rw [iI_mul, iI_mul, iI_sub, iI_add]
    exact Int32.toInt64_ofInt (by show (-2147483648 : Int) ≤ _; omega) (by show _ ≤ (2147483647 : Int); omega)
  unfold jFt
  rw [e1, e2, e3, ← Int64.ofInt_add, ← Int64.ofInt_sub]
  congr 1
  omega
theorem q4_m : ∀ a : Fin 93, (lg_cmp (lN a.val - lN a.val / 4 * 4) 0 = 0) ↔ a.val % 4 = 0 := by decide +kernel
theorem ev_23 : ∀ m : Fin 23, ((nI m.val &&& 1) = 0) ↔ m.val % 2 = 0 := by decide +kernel
theorem jTm_E {c o m : Nat} {w : Int} {x : Int32} {R : Nat → Int32} {C : Nat → Nat → Int32} {N : Nat → Nat} (hc : c ≤ 12) (ho : o ≤ c) (hm : m < 23) (h1 : -12 ≤ w) (h2 : w ≤ 12) (hR : R (24 * o + (m + 1)) = nI (N (24 * o + (m + 1)))) (hC : ∀ i, i ≤ m → C m i = nI (binN m i)) : jTm c (x.toInt64 + ((3 * iI w).toInt64)) R C o m = smI (jE c w x.toInt N o m) (m + 1) := by
  have hx1 := Int32.minValue_le_toInt x
  have hx2 := Int32.toInt_le x
  have hx1 : (-2147483648 : Int) ≤ x.toInt := hx1
  have hx2 : x.toInt ≤ (2147483647 : Int) := hx2
  have m1 : nI (m + 1) - 1 = nI m := pk_sub (a := m + 1) (b := 1) (by omega)
  have e4 : (4 * (nI (m + 1) - 1)).toInt64 = lN (4 * m) := by
    rw [m1, show (4 : Int32) * nI m = nI (4 * m) from pk_mul 4 m, nI_l (by omega)]
  unfold jTm
  rw [jFt_int hc ho hm h1 h2, e4, m1]
  obtain ⟨fi, hfi⟩ : ∃ fi : Int, fi = (c : Int) - 2 * o + 2 * m - x.toInt - 3 * w := ⟨_, rfl⟩
  rw [← hfi]
  have lt0 : fi < 0 → lg_cmp (Int64.ofInt fi) 0 < 0 := fun h => by
    refine (lg_cmp_lt _ _).mpr ?_
    rw [Int64.lt_iff_toInt_lt, Int64.toInt_ofInt_of_le (by omega) (by omega)]
    exact h
  by_cases hn : fi < 0
  · rw [if_neg (fun h => h.2.1 (lt0 hn))]
    refine (smI_z _ (fun t ht => ?_)).symm
    unfold jE
    exact if_neg (by omega)
  · obtain ⟨a, ha⟩ : ∃ a : Nat, fi = (a : Int) := ⟨fi.toNat, by omega⟩
    have eL : Int64.ofInt fi = lN a := by
      rw [ha]
      exact Int64.ofInt_eq_ofNat
    rw [eL]
    have hal : a < 2 ^ 63 := by omega
    by_cases hb : 4 * m < a
    · rw [if_neg (fun h => h.2.2 ((lg_cmp_gt _ _).mpr ((pk_lLT (by omega) hal).mpr hb)))]
      refine (smI_z _ (fun t ht => ?_)).symm
      unfold jE
      exact if_neg (by omega)
    · by_cases h4 : a % 4 = 0
      · have g1 : ¬ lg_cmp (lN a) 0 < 0 := fun h => absurd ((pk_lLT (b := 0) hal (by decide)).mp ((lg_cmp_lt _ _).mp h)) (Nat.not_lt_zero _)
        have g2 : ¬ 0 < lg_cmp (lN a) (lN (4 * m)) := fun h => hb ((pk_lLT (by omega) hal).mp ((lg_cmp_gt _ _).mp h))
        rw [if_pos ⟨(q4_m ⟨a, by omega⟩).mpr h4, g1, g2⟩, show (lN a / 4).toInt32 = nI (a / 4) from q4_c ⟨a, by omega⟩, nI_clamp (by omega), hR, hC _ (by omega)]
        rw [smI_1 (a := a / 4) (m + 1) (fun t ht hne => ?_) (by omega)]
        · have hE : jE c w x.toInt N o m (a / 4) = if m % 2 = 0 then nI (N (24 * o + (m + 1))) * nI (binN m (a / 4)) else -(nI (N (24 * o + (m + 1))) * nI (binN m (a / 4))) := by
            unfold jE
            exact if_pos (by omega)
          rw [hE]
          have ep : ((nI m &&& 1) = 0) ↔ m % 2 = 0 := ev_23 ⟨m, hm⟩
          by_cases e : m % 2 = 0
          · rw [if_pos e, if_pos (ep.mpr e)]
          · rw [if_neg e, if_neg (fun h => e (ep.mp h))]
        · unfold jE
          exact if_neg (by omega)
      · rw [if_neg (fun h => h4 ((q4_m ⟨a, by omega⟩).mp h.1))]
        refine (smI_z _ (fun t ht => ?_)).symm
        unfold jE
        exact if_neg (by omega)
/-- the class's sum -/
theorem jAt_E {y : ow_MS} {c : Nat} {w : Int} {x : Int32} {N : Nat → Nat} (hc : c ≤ 12) (h1 : -12 ≤ w) (h2 : w ≤ 12) (hw : y.1 24009 = iI w) (hR : ∀ k, k < 312 → y.2.1 24006 k = nI (N k)) (hC : ∀ m i, m < 23 → i ≤ m → y.2.1 (39001 + m) i = nI (binN m i)) : jAt y c x = smI (fun o => smI (fun m => smI (jE c w x.toInt N o m) (m + 1)) 23) (c + 1) := by
  unfold jAt
  rw [hw]
  refine smI_c _ (fun o ho => smI_c _ (fun m hm => ?_))
  exact jTm_E hc (by omega) hm h1 h2 (hR _ (by omega)) (fun i hi => hC m i hm hi)
/-- the reference's sum -/
theorem jX_E {c : Nat} {w : Int} {x : Int} {N : Nat → Nat} {T : Nat → Int64} {k : Nat} (hc : c ≤ 12) (h1 : -12 ≤ w) (h2 : w ≤ 12) (hk : (k : Int) = x + 100) (hT : ∀ o l, o ≤ c → l < 24 → T (24 * (c - o) + l) = Int64.ofNat (N (24 * o + l))) : (jX c w T k 23).toInt32 = if (iI w &&& 1) = 0 then smI (fun o => smI (fun m => smI (jE c w x N o m) (m + 1)) 23) (c + 1) else - smI (fun o => smI (fun m => smI (jE c w x N o m) (m + 1)) 23) (c + 1) := by
  have e1 : ∀ m t ze, m < 23 → t ≤ m → ze ≤ c → (jQ c w T k (m + 1) t ze).toInt32 = if (iI w &&& 1) = 0 then jE c w x N (c - ze) m t else - jE c w x N (c - ze) m t := by
    intro m t ze hm ht hz
    have eT := hT (c - ze) (m + 1) (by omega) (by omega)
    rw [show c - (c - ze) = ze by omega] at eT
    have eP : jP c w (m + 1) t ze = k ↔ (c : Int) - 2 * (c - ze : Nat) + 2 * m - 4 * t - 3 * w = x := by
      unfold jP
      omega
    have eV : (T (24 * ze + (m + 1)) * jW (m + 1) t).toInt32 = if m % 2 = 0 then nI (N (24 * (c - ze) + (m + 1))) * nI (binN m t) else -(nI (N (24 * (c - ze) + (m + 1))) * nI (binN m t)) := by
      rw [eT, jW_bn hm ht, Int64.toInt32_mul, Int64.toInt32_ofNat']
      by_cases e : m % 2 = 0
      · rw [if_pos e, if_pos e, Int64.toInt32_ofNat']
        rfl
      · rw [if_neg e, if_neg e, Int64.toInt32_neg, Int64.toInt32_ofNat', Int32.mul_neg]
        rfl
    unfold jQ jE
    by_cases e : jP c w (m + 1) t ze = k
    · rw [if_pos e, if_pos (eP.mp e), ← eV]
      by_cases ew : (iI w &&& 1) = 0
      · rw [if_pos ew, if_pos ew]
      · rw [if_neg ew, if_neg ew, Int64.toInt32_sub, Int64.toInt32_ofNat]
        exact Int32.zero_sub _
    · rw [if_neg e, if_neg (fun h => e (eP.mpr h)), Int32.neg_zero, ite_self]
      rfl
  have e2 : (jX c w T k 23).toInt32 = smI (fun m => smI (fun t => smI (fun ze => (jQ c w T k (m + 1) t ze).toInt32) (c + 1)) (m + 1)) 23 := by
    unfold jX
    rw [smJ_I]
    refine smI_c _ (fun m hm => ?_)
    unfold jY
    rw [smJ_I]
    refine smI_c _ (fun t ht => ?_)
    unfold jZ
    rw [smJ_I]
  have e3 : smI (fun o => smI (fun m => smI (jE c w x N o m) (m + 1)) 23) (c + 1) = smI (fun m => smI (fun t => smI (fun ze => jE c w x N (c - ze) m t) (c + 1)) (m + 1)) 23 := by
    rw [smI_sw]
    refine smI_c _ (fun m hm => ?_)
    rw [smI_sw]
    exact smI_c _ (fun t ht => (smI_rv (f := fun o => jE c w x N o m t) c).symm)
  rw [e2, e3]
  by_cases ew : (iI w &&& 1) = 0
  · rw [if_pos ew]
    refine smI_c _ (fun m hm => smI_c _ (fun t ht => smI_c _ (fun ze hz => ?_)))
    rw [e1 m t ze hm (by omega) (by omega), if_pos ew]
  · rw [if_neg ew, ← smI_ng]
    refine smI_c _ (fun m hm => ?_)
    rw [← smI_ng]
    refine smI_c _ (fun t ht => ?_)
    rw [← smI_ng]
    refine smI_c _ (fun ze hz => ?_)
    rw [e1 m t ze hm (by omega) (by omega), if_neg ew]
/-- beyond a hundred there is nothing -/
theorem jE_far {c : Nat} {w x : Int} {N : Nat → Nat} (hc : c ≤ 12) (h1 : -12 ≤ w) (h2 : w ≤ 12) (hx : x < -100 ∨ 100 < x) : smI (fun o => smI (fun m => smI (jE c w x N o m) (m + 1)) 23) (c + 1) = 0 := by
  refine smI_z _ (fun o ho => smI_z _ (fun m hm => smI_z _ (fun t ht => ?_)))
  unfold jE
  exact if_neg (by omega)
end
