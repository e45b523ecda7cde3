section
/-! 99zzzzzzzzzzzc.xk4 -/
/-! exact: moves of kind 4 of the reference -/
def t4A (A : rn_L) (a b c : Nat) : rn_L := rsh A (fun v => vAt A (sw2 (a / 2) (rn_nx A (a / 2)) (sw2 (b / 2) (rn_nx A (b / 2)) (sw2 (c / 2) (rn_nx A (c / 2)) v)))) A.length
def t4o (A : rn_L) (s : Nat) : Prop := uns A (s / 2) = 0 ∧ uns A (rn_nx A (s / 2)) = 0
def t4P (A : rn_L) (a b c : Nat) (A' : rn_L) : Prop := (crs A (hdv A a) ≠ crs A (hdv A b) ∧ crs A (hdv A a) ≠ crs A (hdv A c) ∧ crs A (hdv A b) ≠ crs A (hdv A c)) ∧ (t4o A a ∨ t4o A b ∨ t4o A c) ∧ A' = t4A A a b c
def O4s (A : rn_L) (sg : Nat → Bool) (s : Nat) (A' : rn_L) (sg' : Nat → Bool) : Prop := s < 2 * A.flatten.length ∧ sg' = sg ∧ phi A sg (phi A sg (phi A sg s)) = s ∧ t4P A s (phi A sg s) (phi A sg (phi A sg s)) A'
def O4 (A : rn_L) (sg : Nat → Bool) (A' : rn_L) (sg' : Nat → Bool) : Prop := ∃ s, O4s A sg s A' sg'
def O4L (A : rn_L) (sg : Nat → Bool) (M : Nat → Int32) (f : Nat) (A' : rn_L) (sg' : Nat → Bool) : Prop := ∃ s f', f' < f ∧ M s = nI f' ∧ O4s A sg s A' sg'
section XK4
variable {A : rn_L} {sg : Nat → Bool} {A' : rn_L} {sg' : Nat → Bool} {a b c f : Nat} {M : Nat → Int32}
def dj3 (A : rn_L) (a b c : Nat) : Prop := dj4 (a / 2) (rn_nx A (a / 2)) (b / 2) (rn_nx A (b / 2)) ∧ dj4 (b / 2) (rn_nx A (b / 2)) (c / 2) (rn_nx A (c / 2)) ∧ dj4 (c / 2) (rn_nx A (c / 2)) (a / 2) (rn_nx A (a / 2))
theorem sw2_cm {a b c d p : Nat} (h : dj4 a b c d) : sw2 a b (sw2 c d p) = sw2 c d (sw2 a b p) := sw2_comm h.1 h.2.1 h.2.2.1 h.2.2.2
theorem t4A_rot (h : dj3 A a b c) : t4A A a b c = t4A A b c a := by
  unfold t4A
  congr 1
  funext v
  rw [sw2_cm h.1, sw2_cm (dj4_sy h.2.2)]
theorem t4A_sw (h : dj3 A a b c) : t4A A a b c = t4A A a c b := by
  unfold t4A
  congr 1
  funext v
  rw [sw2_cm h.2.1]
theorem t4P_rot (h : dj3 A a b c) : t4P A a b c A' ↔ t4P A b c a A' := by
  unfold t4P
  rw [t4A_rot h]
  constructor
  · rintro ⟨⟨h1, h2, h3⟩, h4, h5⟩
    exact ⟨⟨h3, h1.symm, h2.symm⟩, by rcases h4 with h4 | h4 | h4 <;> simp [h4], h5⟩
  · rintro ⟨⟨h1, h2, h3⟩, h4, h5⟩
    exact ⟨⟨h2.symm, h3.symm, h1⟩, by rcases h4 with h4 | h4 | h4 <;> simp [h4], h5⟩
theorem t4P_sw (h : dj3 A a b c) : t4P A a b c A' ↔ t4P A a c b A' := by
  unfold t4P
  rw [t4A_sw h]
  constructor
  · rintro ⟨⟨h1, h2, h3⟩, h4, h5⟩
    exact ⟨⟨h2, h1, h3.symm⟩, by rcases h4 with h4 | h4 | h4 <;> simp [h4], h5⟩
  · rintro ⟨⟨h1, h2, h3⟩, h4, h5⟩
    exact ⟨⟨h2, h1, h3.symm⟩, by rcases h4 with h4 | h4 | h4 <;> simp [h4], h5⟩
theorem dj3_rot (h : dj3 A a b c) : dj3 A b c a := ⟨h.2.1, h.2.2, h.1⟩
theorem dj3_sw (h : dj3 A a b c) : dj3 A a c b := ⟨dj4_sy h.2.2, dj4_sy h.2.1, dj4_sy h.1⟩
/-- a face of three sides is one turn of three -/
theorem tri_cyc (hd : rn_ok A.flatten) (h : a < 2 * A.flatten.length ∧ b < 2 * A.flatten.length ∧ c < 2 * A.flatten.length) (hne : a ≠ b ∧ a ≠ c ∧ b ≠ c) (hcl : ∀ s, (s = a ∨ s = b ∨ s = c) → phi A sg s = a ∨ phi A sg s = b ∨ phi A sg s = c) (orb : ∀ Lb : Nat → Nat, (∀ s, s < 2 * A.flatten.length → Lb (phi A sg s) = Lb s) → Lb a = Lb b ∧ Lb a = Lb c) : (phi A sg a = b ∧ phi A sg b = c ∧ phi A sg c = a) ∨ (phi A sg a = c ∧ phi A sg c = b ∧ phi A sg b = a) := by
  have i01 : phi A sg a ≠ phi A sg b := fun e => hne.1 (phi_inj hd h.1 h.2.1 e)
  have i02 : phi A sg a ≠ phi A sg c := fun e => hne.2.1 (phi_inj hd h.1 h.2.2 e)
  have i12 : phi A sg b ≠ phi A sg c := fun e => hne.2.2 (phi_inj hd h.2.1 h.2.2 e)
  have p0 := hcl a (Or.inl rfl)
  have p1 := hcl b (Or.inr (Or.inl rfl))
  have p2 := hcl c (Or.inr (Or.inr rfl))
  have one : phi A sg a ≠ a := fun e => by
    have := (orb (fun t => if t = a then 1 else 0) (fun s hs => by
      show (if _ then _ else _) = if _ then _ else _
      by_cases e1 : s = a
      · rw [e1, e]
      · rw [if_neg e1, if_neg (fun e2 => e1 (phi_inj hd hs h.1 (e2.trans e.symm)))])).1
    have : (if a = a then 1 else 0) = if b = a then 1 else 0 := this
    rw [if_pos rfl, if_neg (fun e => hne.1 e.symm)] at this
    cases this
  have two : ∀ x y, (x = a ∧ (y = b ∧ phi A sg c = c ∨ y = c ∧ phi A sg b = b)) → ¬ (phi A sg x = y ∧ phi A sg y = x) := by
    rintro x y ⟨rfl, hy⟩ ⟨e1, e2⟩
    have := orb (fun t => if t = x ∨ t = y then 1 else 0) (fun s hs => by
      show (if _ then _ else _) = if _ then _ else _
      have hyl : y < 2 * A.flatten.length := by omega
      by_cases e3 : s = x ∨ s = y
      · rw [if_pos e3, if_pos]
        rcases e3 with e3 | e3 <;> rw [e3]
        · exact Or.inr e1
        · exact Or.inl e2
      · rw [if_neg e3, if_neg]
        rintro (e4 | e4)
        · exact e3 (Or.inr (phi_inj hd hs hyl (e4.trans e2.symm)))
        · exact e3 (Or.inl (phi_inj hd hs h.1 (e4.trans e1.symm))))
    have t1 : (if x = x ∨ x = y then 1 else 0) = if b = x ∨ b = y then 1 else 0 := this.1
    have t2 : (if x = x ∨ x = y then 1 else 0) = if c = x ∨ c = y then 1 else 0 := this.2
    rw [if_pos (Or.inl rfl)] at t1 t2
    rcases hy with ⟨hy, -⟩ | ⟨hy, -⟩
    · rw [if_neg (by rintro (e | e) <;> omega)] at t2
      cases t2
    · rw [if_neg (by rintro (e | e) <;> omega)] at t1
      cases t1
  have two1 := two a b
  have two2 := two a c
  omega
/-- what a face of three sides offers -/
theorem t4_face (hd : rn_ok A.flatten) (h : a < 2 * A.flatten.length ∧ b < 2 * A.flatten.length ∧ c < 2 * A.flatten.length) (hne : a ≠ b ∧ a ≠ c ∧ b ≠ c) (memf : ∀ t, t ∈ [a, b, c] ↔ t < 2 * A.flatten.length ∧ M t = nI f) (hcl : ∀ s, (s = a ∨ s = b ∨ s = c) → phi A sg s = a ∨ phi A sg s = b ∨ phi A sg s = c) (orb : ∀ Lb : Nat → Nat, (∀ s, s < 2 * A.flatten.length → Lb (phi A sg s) = Lb s) → Lb a = Lb b ∧ Lb a = Lb c) : (∃ s, M s = nI f ∧ O4s A sg s A' sg') ↔ t4P A a b c A' ∧ sg' = sg := by
  have dj : t4P A a b c A' → dj3 A a b c := fun h9 => (tri_pairs (sg := sg) hd h hne hcl h9.1.1 h9.1.2.1 h9.1.2.2).2.2.2
  have key : ∀ x y w, x < 2 * A.flatten.length → phi A sg x = y → phi A sg y = w → phi A sg w = x → (O4s A sg x A' sg' ↔ t4P A x y w A' ∧ sg' = sg) := by
    intro x y w hx e1 e2 e3
    unfold O4s
    rw [e1, e2, e3]
    exact ⟨fun ⟨_, h2, _, h4⟩ => ⟨h4, h2⟩, fun ⟨h4, h2⟩ => ⟨hx, h2, rfl, h4⟩⟩
  have back : ∀ x y w, (x = a ∧ y = b ∧ w = c ∨ x = b ∧ y = c ∧ w = a ∨ x = c ∧ y = a ∧ w = b ∨ x = a ∧ y = c ∧ w = b ∨ x = b ∧ y = a ∧ w = c ∨ x = c ∧ y = b ∧ w = a) → t4P A x y w A' → t4P A a b c A' := by
    intro x y w hx h9
    have hx' : (x = a ∨ x = b ∨ x = c) ∧ (y = a ∨ y = b ∨ y = c) ∧ (w = a ∨ w = b ∨ w = c) ∧ x ≠ y ∧ x ≠ w ∧ y ≠ w := by omega
    have d9 : dj3 A x y w := (tri_pairs (sg := sg) hd (s0 := x) (s1 := y) (s2 := w) (by omega) (by omega) (fun s hs => by
      have := hcl s (by omega)
      omega) h9.1.1 h9.1.2.1 h9.1.2.2).2.2.2
    rcases hx with ⟨e1, e2, e3⟩ | ⟨e1, e2, e3⟩ | ⟨e1, e2, e3⟩ | ⟨e1, e2, e3⟩ | ⟨e1, e2, e3⟩ | ⟨e1, e2, e3⟩ <;> subst e1 <;> subst e2 <;> subst e3
    · exact h9
    · exact (t4P_rot (dj3_rot d9)).mp ((t4P_rot d9).mp h9)
    · exact (t4P_rot d9).mp h9
    · exact (t4P_sw d9).mp h9
    · exact (t4P_rot (dj3_sw d9)).mp ((t4P_sw d9).mp h9) |> fun h8 => (t4P_rot (dj3_rot (dj3_sw d9))).mp h8
    · exact (t4P_rot (dj3_sw d9)).mp ((t4P_sw d9).mp h9)
  have cyc := tri_cyc hd h hne hcl orb
  constructor
  · rintro ⟨s, hM, hs⟩
    have hs' : s = a ∨ s = b ∨ s = c := by
      have := (memf s).mpr ⟨hs.1, hM⟩
      simpa using this
    rcases cyc with ⟨k1, k2, k3⟩ | ⟨k1, k2, k3⟩ <;> rcases hs' with e | e | e <;> rw [e] at hs
    · exact (key a b c h.1 k1 k2 k3).mp hs
    · obtain ⟨g1, g2⟩ := (key b c a h.2.1 k2 k3 k1).mp hs
      exact ⟨back b c a (by simp) g1, g2⟩
    · obtain ⟨g1, g2⟩ := (key c a b h.2.2 k3 k1 k2).mp hs
      exact ⟨back c a b (by simp) g1, g2⟩
    · obtain ⟨g1, g2⟩ := (key a c b h.1 k1 k2 k3).mp hs
      exact ⟨back a c b (by simp) g1, g2⟩
    · obtain ⟨g1, g2⟩ := (key b a c h.2.1 k3 k1 k2).mp hs
      exact ⟨back b a c (by simp) g1, g2⟩
    · obtain ⟨g1, g2⟩ := (key c b a h.2.2 k2 k3 k1).mp hs
      exact ⟨back c b a (by simp) g1, g2⟩
  · rintro ⟨h9, h8⟩
    refine ⟨a, ((memf a).mp (by simp)).2, ?_⟩
    rcases cyc with ⟨k1, k2, k3⟩ | ⟨k1, k2, k3⟩
    · exact (key a b c h.1 k1 k2 k3).mpr ⟨h9, h8⟩
    · exact (key a c b h.1 k1 k2 k3).mpr ⟨(t4P_sw (dj h9)).mp h9, h8⟩
/-- a face of another number of sides offers nothing -/
theorem t4_noface (hd : rn_ok A.flatten) (h3 : (fl M f (2 * A.flatten.length)).length ≠ 3) (orb : ∀ Lb : Nat → Nat, (∀ s, s < 2 * A.flatten.length → Lb (phi A sg s) = Lb s) → ∀ s s', s < 2 * A.flatten.length → s' < 2 * A.flatten.length → M s = nI f → M s' = nI f → Lb s = Lb s') (clo : ∀ s, s < 2 * A.flatten.length → (M s = nI f ↔ M (phi A sg s) = nI f)) : ¬ ∃ s, M s = nI f ∧ O4s A sg s A' sg' := by
  rintro ⟨s, hM, hs, -, h9, ⟨d1, d2, d3⟩, -⟩
  obtain ⟨x, hx⟩ : ∃ x, x = phi A sg s := ⟨_, rfl⟩
  obtain ⟨y, hy⟩ : ∃ y, y = phi A sg x := ⟨_, rfl⟩
  rw [← hx] at d1 d2 d3 h9
  rw [← hy] at d2 d3 h9
  have hxl : x < 2 * A.flatten.length := by rw [hx]; exact phi_lt hd hs
  have hyl : y < 2 * A.flatten.length := by rw [hy]; exact phi_lt hd hxl
  have hMx : M x = nI f := by rw [hx]; exact (clo s hs).mp hM
  have hMy : M y = nI f := by rw [hy]; exact (clo x hxl).mp hMx
  have nxy : s ≠ x ∧ s ≠ y ∧ x ≠ y := ⟨fun e => d1 (by rw [← e]), fun e => d2 (by rw [← e]), fun e => d3 (by rw [← e])⟩
  have all : ∀ t, t < 2 * A.flatten.length → M t = nI f → t = s ∨ t = x ∨ t = y := by
    intro t ht hMt
    have := orb (fun t => if t = s ∨ t = x ∨ t = y then 1 else 0) (fun u hu => by
      show (if _ then _ else _) = if _ then _ else _
      by_cases e3 : u = s ∨ u = x ∨ u = y
      · rw [if_pos e3, if_pos]
        rcases e3 with e3 | e3 | e3 <;> rw [e3]
        · exact Or.inr (Or.inl hx.symm)
        · exact Or.inr (Or.inr hy.symm)
        · exact Or.inl h9
      · rw [if_neg e3, if_neg]
        rintro (e4 | e4 | e4)
        · exact e3 (Or.inr (Or.inr (phi_inj hd hu hyl (e4.trans h9.symm))))
        · exact e3 (Or.inl (phi_inj hd hu hs (e4.trans hx)))
        · exact e3 (Or.inr (Or.inl (phi_inj hd hu hxl (e4.trans hy))))) s t hs ht hM hMt
    have this : (if s = s ∨ s = x ∨ s = y then 1 else 0) = if t = s ∨ t = x ∨ t = y then 1 else 0 := this
    rw [if_pos (Or.inl rfl)] at this
    by_cases e : t = s ∨ t = x ∨ t = y
    · exact e
    · rw [if_neg e] at this
      cases this
  apply h3
  have pm : (fl M f (2 * A.flatten.length)).Perm [s, x, y] := by
    refine (List.perm_ext_iff_of_nodup (nodup_filter List.nodup_range) ?_).mpr (fun t => ?_)
    · simp only [List.nodup_cons, List.mem_cons, List.not_mem_nil, or_false, not_or]
      exact ⟨⟨nxy.1, nxy.2.1⟩, nxy.2.2, fun h => h, List.nodup_nil⟩
    · rw [List.mem_filter, List.mem_range, decide_eq_true_iff]
      simp only [List.mem_cons, List.not_mem_nil, or_false]
      constructor
      · exact fun h8 => all t h8.1 h8.2
      · rintro (e | e | e) <;> rw [e]
        · exact ⟨hs, hM⟩
        · exact ⟨hxl, hMx⟩
        · exact ⟨hyl, hMy⟩
  exact pm.length_eq
theorem O4L_s : (O4L A sg M f A' sg' ∨ ∃ s, M s = nI f ∧ O4s A sg s A' sg') ↔ O4L A sg M (f + 1) A' sg' := by
  constructor
  · rintro (⟨s, f', h1, h2, h3⟩ | ⟨s, h2, h3⟩)
    · exact ⟨s, f', by omega, h2, h3⟩
    · exact ⟨s, f, by omega, h2, h3⟩
  · rintro ⟨s, f', h1, h2, h3⟩
    by_cases e : f' = f
    · rw [e] at h2
      exact Or.inr ⟨s, h2, h3⟩
    · exact Or.inl ⟨s, f', by omega, h2, h3⟩
theorem O4L_n (hno : ∀ A' sg', ¬ ∃ s, M s = nI f ∧ O4s A sg s A' sg') : O4L A sg M f A' sg' ↔ O4L A sg M (f + 1) A' sg' := by
  rw [← O4L_s]
  exact ⟨Or.inl, fun h => h.elim id (fun h9 => absurd h9 (hno A' sg'))⟩
end XK4
section XK4b
variable {Φ : ow_MS → (List Nat → Prop) → Nat → Prop} {n : Nat} {z : ow_MS} {A : rn_L} {sg : Nat → Bool} {S : List Nat → Prop}
theorem xr_three (hΦ : snkF Φ) (hn : mw_net n) (hn3 : n ≠ 3000) (hO : oNet z n A sg) (h : Φ z S 0) : Te (fun K => qe_X13_threeChange K n z) (fun z1 => (∃ S', adS S S' (O4 A sg) ∧ Φ z1 S' 2700) ∧ fr (fun g => g < 1000 ∧ g ≠ 12 ∧ g ≠ 28 ∨ 3001 ≤ g ∧ g ≤ 3016 ∨ n + 12 ≤ g ∧ g ≤ n + 16) z z1) := by
  have hmn := net_mod hn
  have hl := hO.len
  have hC := hO.2.2.2
  have hd := wkF_ok hO.wk
  refine e_X13_threeChange ?_
  refine u_X13_threeChange_0 ?_; unfold qm_X13_threeChange_0
  refine w_cs0 (te_all (α := Nat → Nat) (H := fun Lb => ∀ s, s < 2 * A.flatten.length → Lb (phi A sg s) = Lb s) (R := fun Lb z1 => fr (frW n) z z1 ∧ ∃ F, rn_fc z1 n A.flatten.length F ∧ wkF3 A sg Lb F (z1.2.1 (n + 14))) (tn_walk2 hn (by omega) hd hO.1 hO.2.1) (fun Lb hLb => xr_walk hn (by omega) hd hO.1 hO.2.1 hLb)) (fun z0 ⟨⟨f0, F, fc, w2⟩, hal⟩ => ?_)
  have orb9 : ∀ Lb : Nat → Nat, (∀ s, s < 2 * A.flatten.length → Lb (phi A sg s) = Lb s) → ∀ f', f' < F → ∀ s s', s < 2 * A.flatten.length → s' < 2 * A.flatten.length → z0.2.1 (n + 14) s = nI f' → z0.2.1 (n + 14) s' = nI f' → Lb s = Lb s' := by
    intro Lb hLb f' hf'
    obtain ⟨-, F', fc', w3⟩ := hal Lb hLb
    have e : F' = F := by
      have b1 := fc'.2.1
      have b2 := fc.2.1
      exact nI_inj9 (by omega) (by omega) (fc'.1.symm.trans fc.1)
    rw [e] at w3
    exact (w3.2 f' hf').2
  have f0' : fr (fun g => g < 1000 ∧ g ≠ 12 ∧ g ≠ 28 ∨ 3001 ≤ g ∧ g ≤ 3016 ∨ n + 12 ≤ g ∧ g ≤ n + 16) z z0 := fr_mono (fun g hg => by rcases hg with hg | hg | hg <;> omega) f0
  have hO0 : oNet z0 n A sg := oNet_fr f0 (fun g hg => by rcases hg with hg | hg | hg <;> omega) hO
  have h0 : Φ z0 S 0 := hΦ.1 _ _ _ _ _ f0 (fun g hg => by rcases hg with hg | hg | hg <;> omega) h
  obtain ⟨F16, F2, Fm, Fs⟩ := fc
  obtain ⟨M, hM⟩ : ∃ M, M = z0.2.1 (n + 14) := ⟨_, rfl⟩
  rw [← hM] at w2 Fm Fs orb9
  let Q : ow_MS → Prop := fun z1 => (∃ S', adS S S' (O4 A sg) ∧ Φ z1 S' 2700) ∧ fr (fun g => g < 1000 ∧ g ≠ 12 ∧ g ≠ 28 ∨ 3001 ≤ g ∧ g ≤ 3016 ∨ n + 12 ≤ g ∧ g ≤ n + 16) z z1
  have oY : ∀ {y : ow_MS}, fr frC z0 y → oNet y n A sg := fun hf => oNet_C hn hn3 hf hO0
  have Q2 : ∀ {y : ow_MS}, fr frC z0 y → fr (fun g => g < 1000 ∧ g ≠ 12 ∧ g ≠ 28 ∨ 3001 ≤ g ∧ g ≤ 3016 ∨ n + 12 ≤ g ∧ g ≤ n + 16) z y := fun hf => fr_tr f0' (fr_mono (fun g hg => by unfold frC at hg; omega) hf)
  have out : ∀ (k f : Nat) (y : ow_MS), f + k = F → fr frC z0 y → (∃ L2, L2 ≤ f ∧ ∃ S1, adS S S1 (O4L A sg M f) ∧ Φ y S1 L2) → Tt (fun K i => q_X13_threeChange K i 1 (nI f) 0 0 0 0 n 0 0 0 y) Q := by
    intro k
    induction k with
    | zero =>
      intro f y hf9 hf ⟨L2, hL2, S1, hS1, ho⟩
      refine u_X13_threeChange_1 ?_; unfold qm_X13_threeChange_1
      exact w_rdF (x := nI F) (by rw [(hf (n + 16) (by unfold frC; omega)).1]; exact F16) (w_leT (by omega) (by omega) (w_some ⟨⟨S1, adS_eq hS1 (fun A' sg' => ⟨fun ⟨s, f', _, _, h3⟩ => ⟨s, h3⟩, fun ⟨s, h3⟩ => by
        obtain ⟨f', h1, h2⟩ := Fm s h3.1
        exact ⟨s, f', by omega, h2, h3⟩⟩), hΦ.2.2 _ _ _ _ (by omega) ho⟩, Q2 hf⟩))
    | succ k ih =>
      intro f y hf9 hf hLo
      have c8 : ∀ (y2 : ow_MS), fr frC z0 y2 → (∃ L2, L2 ≤ f + 1 ∧ ∃ S1, adS S S1 (O4L A sg M (f + 1)) ∧ Φ y2 S1 L2) → Tt (fun K i => q_X13_threeChange K i 8 (nI f) 0 0 0 0 n 0 0 0 y2) Q := by
        intro y2 hf2 ho2
        refine u_X13_threeChange_8 ?_; unfold qm_X13_threeChange_8
        rw [nI_1]
        exact ih (f + 1) y2 (by omega) hf2 ho2
      have e15 : y.2.1 (n + 15) f = nI (cE M (nI f) (2 * A.flatten.length)) := by
        rw [(hf (n + 15) (by unfold frC; omega)).2.1]
        exact Fs f (by omega)
      have hce := cE_le (M := M) (x := nI f) (2 * A.flatten.length)
      obtain ⟨L2, hL2, S1, hS1, ho⟩ := hLo
      refine u_X13_threeChange_1 ?_; unfold qm_X13_threeChange_1
      refine w_rdF (x := nI F) (by rw [(hf (n + 16) (by unfold frC; omega)).1]; exact F16) (w_leF (by omega) (by omega) (w_rdI (pl15 hn) rfl (by omega) e15 (w_eqN (b := 3) (by omega) (by omega) (fun h3 => ?_) (fun h3 => c8 y hf ⟨L2, by omega, S1, adS_eq hS1 (fun A' sg' => O4L_n (fun A2 sg2 => t4_noface hd (by rw [fl_len]; exact h3) (fun Lb hLb => orb9 Lb hLb f (by omega)) (w2 f (by omega)))), ho⟩))))
      have hlen3 : (fl M f (2 * A.flatten.length)).length = 3 := by rw [fl_len]; exact h3
      -- the three sides are collected
      have col : ∀ (k s : Nat) (x4 : Int32) (y : ow_MS), s + k = 2 * A.flatten.length → fr frC z0 y → Φ y S1 L2 → (x4 = 0 ∧ (∀ t, t ∈ fl M f s → ¬ t4o A t) ∨ x4 = 1 ∧ ∃ t, t ∈ fl M f s ∧ t4o A t) → (∀ i t, (fl M f s)[i]? = some t → y.2.1 33 i = nI (t / 2) ∧ y.2.1 34 i = nI (crs A (hdv A t))) → Tt (fun K i => q_X13_threeChange K i 2 (nI f) (nI (fl M f s).length) x4 (nI s) 0 n 0 0 0 y) Q := by
        intro k
        induction k with
        | zero =>
          intro s x4 y hs hf ho hx4 hcol
          have o2 := oY hf
          have hse : s = 2 * A.flatten.length := by omega
          rw [hse] at hcol hx4 ⊢
          -- the three of them
          obtain ⟨s0, s1, s2, hfl⟩ : ∃ s0 s1 s2, fl M f (2 * A.flatten.length) = [s0, s1, s2] := by
            match hfl : fl M f (2 * A.flatten.length), hlen3 with
            | [a, b, c], _ => exact ⟨a, b, c, rfl⟩
          have nd : (fl M f (2 * A.flatten.length)).Nodup := nodup_filter List.nodup_range
          have memf : ∀ t, t ∈ fl M f (2 * A.flatten.length) ↔ t < 2 * A.flatten.length ∧ M t = nI f := fun t => by
            unfold fl
            rw [List.mem_filter, List.mem_range, decide_eq_true_iff]
          rw [hfl] at hcol nd memf hx4
          have g0 := hcol 0 s0 rfl
          have g1 := hcol 1 s1 rfl
          have g2 := hcol 2 s2 rfl
          have m0 := (memf s0).mp (by simp)
          have m1 := (memf s1).mp (by simp)
          have m2 := (memf s2).mp (by simp)
          have hnd : s0 ≠ s1 ∧ s0 ≠ s2 ∧ s1 ≠ s2 := by
            simp only [List.nodup_cons, List.mem_cons, List.not_mem_nil, or_false, not_or] at nd
            exact ⟨nd.1.1, nd.1.2, nd.2.1⟩
          have x0 := (o2.cx (hdv_lt m0.1)).1
          have x1 := (o2.cx (hdv_lt m1.1)).1
          have x2 := (o2.cx (hdv_lt m2.1)).1
          have hcl9 : ∀ s, (s = s0 ∨ s = s1 ∨ s = s2) → phi A sg s = s0 ∨ phi A sg s = s1 ∨ phi A sg s = s2 := fun s hs9 => by
            have hms : s < 2 * A.flatten.length ∧ M s = nI f := by
              rcases hs9 with e | e | e <;> rw [e] <;> assumption
            have hp := (w2 f (by omega) s hms.1).mp hms.2
            have := (memf (phi A sg s)).mpr ⟨phi_lt hd hms.1, hp⟩
            simpa using this
          have face9 : ∀ A' sg', (∃ s, M s = nI f ∧ O4s A sg s A' sg') ↔ t4P A s0 s1 s2 A' ∧ sg' = sg := fun A' sg' => t4_face hd ⟨m0.1, m1.1, m2.1⟩ hnd memf hcl9 (fun Lb hLb => ⟨orb9 Lb hLb f (by omega) s0 s1 m0.1 m1.1 m0.2 m1.2, orb9 Lb hLb f (by omega) s0 s2 m0.1 m2.1 m0.2 m2.2⟩)
          have c8' : (∀ A', ¬ t4P A s0 s1 s2 A') → Tt (fun K i => q_X13_threeChange K i 8 (nI f) 0 0 0 0 n 0 0 0 y) Q := fun hno => c8 y hf ⟨L2, by omega, S1, adS_eq hS1 (fun A' sg' => O4L_n (fun A2 sg2 h7 => hno A2 ((face9 A2 sg2).mp h7).1)), ho⟩
          refine u_X13_threeChange_2 ?_; unfold qm_X13_threeChange_2
          refine w_rdF o2.1.V ?_
          rw [rn_mul2]
          refine w_leT (by omega) (by omega) (w_if (fun hx0 => c8' (fun A' h7 => by
            rcases hx4 with ⟨-, h6⟩ | ⟨h6, -⟩
            · rcases h7.2.1 with h5 | h5 | h5
              · exact h6 s0 (by simp) h5
              · exact h6 s1 (by simp) h5
              · exact h6 s2 (by simp) h5
            · rw [h6] at hx0
              exact absurd hx0 (by decide))) (fun hx0 => w_rdI ml34 nI_0.symm (by omega) g0.2 (w_rdI ml34 (show (1 : Int32) = nI 1 from rfl) (by omega) g1.2 (w_eqN (by omega) (by omega) (fun e => c8' (fun A' h7 => h7.1.1 e)) (fun c01 => w_rdI ml34 nI_0.symm (by omega) g0.2 (w_rdI ml34 (show (2 : Int32) = nI 2 from rfl) (by omega) g2.2 (w_eqN (by omega) (by omega) (fun e => c8' (fun A' h7 => h7.1.2.1 e)) (fun c02 => w_rdI ml34 (show (1 : Int32) = nI 1 from rfl) (by omega) g1.2 (w_rdI ml34 (show (2 : Int32) = nI 2 from rfl) (by omega) g2.2 (w_eqN (by omega) (by omega) (fun e => c8' (fun A' h7 => h7.1.2.2 e)) (fun c12 => w_cs0 (tn_copy pn3 hn (fun e => hn3 e.symm) (by omega) (by omega) o2.1.1) (fun y1 hy1 => ?_)))))))))))) 
          obtain ⟨q1, q2, q3⟩ := hy1
          have tp9 := tri_pairs (sg := sg) hd ⟨m0.1, m1.1, m2.1⟩ hnd hcl9 c01 c02 c12
          have hP9 : t4P A s0 s1 s2 (t4A A s0 s1 s2) := by
            refine ⟨⟨c01, c02, c12⟩, ?_, rfl⟩
            rcases hx4 with ⟨h6, -⟩ | ⟨-, t, h5, h6⟩
            · exact absurd h6 hx0
            · rcases (show t = s0 ∨ t = s1 ∨ t = s2 by simpa using h5) with e | e | e <;> rw [e] at h6
              · exact Or.inl h6
              · exact Or.inr (Or.inl h6)
              · exact Or.inr (Or.inr h6)
          clear c01 c02 c12 hnd nd memf hcl9 c8'
          obtain ⟨d0, d1, d2, e01, e12, e20⟩ := tp9
          have n0 := rn_nx_lt (A := A) (v := s0 / 2) (by omega)
          have n1 := rn_nx_lt (A := A) (v := s1 / 2) (by omega)
          have n2 := rn_nx_lt (A := A) (v := s2 / 2) (by omega)
          obtain ⟨sw1, sw2'⟩ := sw_three (v0 := s0 / 2) (w0 := rn_nx A (s0 / 2)) (v1 := s1 / 2) (w1 := rn_nx A (s1 / 2)) (v2 := s2 / 2) (w2 := rn_nx A (s2 / 2)) (V := A.flatten.length) ⟨by omega, n0, by omega, n1, by omega, n2⟩ e01 e12 e20
          have fr1 : fr frC z0 y1 := fr_tr hf (fr_mono (fun g hg => Or.inr (by omega)) q2)
          have o1 : rn_lk y1 n A := (oY fr1).1
          have gv : ∀ v, v < A.flatten.length → y1.2.1 3004 v = nI (vAt A v).1 ∧ y1.2.1 3005 v = nI (vAt A v).2 := fun v hv => q1.2.2.2 v _ (by rw [List.append_nil]; exact vAt_of hv)
          have e33 : ∀ {y2 : ow_MS}, fr (fun g => 3004 ≤ g ∧ g ≤ 3005) y1 y2 → y2.2.1 33 = y.2.1 33 := fun hfy => by rw [(hfy 33 (by omega)).2.1, (q2 33 (by omega)).2.1]
          rw [hfl]
          show Tt (fun K i9 => q_X13_threeChange K i9 7 (nI f) (nI 3) x4 (nI 0) 0 n 0 0 0 y1) Q
          refine tri_step (i := 0) (s := s0) (G := fun v => vAt A v) hn hn3 hl (by omega) m0.1 (by rw [e33 fr_rf]; exact g0.1) d0 rfl rfl o1 fr_rf gv (fun y2 fy2 hy2 => ?_)
          refine tri_step (i := 1) (s := s1) (G := fun v => vAt A (sw2 (s0 / 2) (rn_nx A (s0 / 2)) v)) hn hn3 hl (by omega) m1.1 (by rw [e33 fy2]; exact g1.1) d1 ?_ ?_ o1 fy2 hy2 (fun y3 fy3 hy3 => ?_)
          · show vAt A (sw2 _ _ _) = _
            rw [sw2_ne e01 (Or.inl rfl)]
          · show vAt A (sw2 _ _ _) = _
            rw [sw2_ne e01 (Or.inr rfl)]
          · refine tri_step (i := 2) (s := s2) (G := fun v => vAt A (sw2 (s0 / 2) (rn_nx A (s0 / 2)) (sw2 (s1 / 2) (rn_nx A (s1 / 2)) v))) hn hn3 hl (by omega) m2.1 (by rw [e33 fy3]; exact g2.1) d2 ?_ ?_ o1 fy3 hy3 (fun y4 fy4 hy4 => ?_)
            · show vAt A (sw2 _ _ (sw2 _ _ _)) = _
              rw [sw2_ne e12 (Or.inl rfl), sw2_ne (dj4_sy e20) (Or.inl rfl)]
            · show vAt A (sw2 _ _ (sw2 _ _ _)) = _
              rw [sw2_ne e12 (Or.inr rfl), sw2_ne (dj4_sy e20) (Or.inr rfl)]
            · have fr4 : fr frC z0 y4 := fr_tr fr1 (fr_mono (fun g hg => Or.inr (by omega)) fy4)
              have hA4 : rn_At y4 3000 (rsh A (fun v => vAt A (sw2 (s0 / 2) (rn_nx A (s0 / 2)) (sw2 (s1 / 2) (rn_nx A (s1 / 2)) (sw2 (s2 / 2) (rn_nx A (s2 / 2)) v)))) A.length) [] := At_rsh q1 (fy4 3001 (by omega)).1 (fy4 3002 (by omega)).1 (fy4 3003 (by omega)).2.1 hy4
              have hlF : (rsh A (fun v => vAt A (sw2 (s0 / 2) (rn_nx A (s0 / 2)) (sw2 (s1 / 2) (rn_nx A (s1 / 2)) (sw2 (s2 / 2) (rn_nx A (s2 / 2)) v)))) A.length).flatten = (List.range A.flatten.length).map (fun v => vAt A (sw2 (s0 / 2) (rn_nx A (s0 / 2)) (sw2 (s1 / 2) (rn_nx A (s1 / 2)) (sw2 (s2 / 2) (rn_nx A (s2 / 2)) v)))) := by
                rw [rsh_fl _ (Nat.le_refl _), rn_b_len]
              have hsg4 : rn_sg y4 3000 (t4A A s0 s1 s2).flatten sg := by
                intro p hp
                have hp : p ∈ (rsh A (fun v => vAt A (sw2 (s0 / 2) (rn_nx A (s0 / 2)) (sw2 (s1 / 2) (rn_nx A (s1 / 2)) (sw2 (s2 / 2) (rn_nx A (s2 / 2)) v)))) A.length).flatten := hp
                rw [hlF] at hp
                obtain ⟨v, hv, e⟩ := List.mem_map.mp hp
                have hvl := sw1 v (List.mem_range.mp hv)
                rw [← e]
                obtain ⟨k1, k2, k3⟩ := o2.cx hvl
                show y4.2.1 3006 (crs A _) = _
                rw [(fy4 3006 (by omega)).2.1, show y1.2.1 3006 (crs A _) = y.2.1 (n + 6) (crs A _) from q3 _ (by omega)]
                exact k3
              have hlen4 : (t4A A s0 s1 s2).flatten.length ≤ 24 := by
                have : (t4A A s0 s1 s2).flatten = _ := hlF
                rw [this, List.length_map, List.length_range]
                exact hl
              have hcn4 : (t4A A s0 s1 s2).length ≤ 6 := by
                unfold t4A rsh
                rw [List.length_map, List.length_range]
                exact hC
              have ho4 : Φ y4 S1 L2 := hΦ.1 _ _ _ _ _ fy4 (fun g hg => by omega) (hΦ.1 _ _ _ _ _ q2 (fun g hg => by omega) ho)
              refine u_X13_threeChange_7 ?_; unfold qm_X13_threeChange_7
              refine w_leT (a := 3) (by omega) (by omega) (w_cs0 (hΦ.2.1 y4 S1 L2 (t4A A s0 s1 s2) sg (by omega) ho4 hA4 hsg4 (wkF_sw hO.wk sw1 sw2') hlen4 hcn4) (fun y5 ⟨⟨S3, k1, k3⟩, k2⟩ => c8 y5 (fr_tr fr4 (fr_mono (fun g hg => by unfold frO at hg; unfold frC; omega) k2)) ⟨L2 + 1, by omega, S3, adS_eq (adS_tr hS1 k1) (fun A' sg' => by
                rw [← O4L_s, face9 A' sg']
                exact ⟨fun h7 => h7.imp id (fun ⟨e1, e2⟩ => ⟨by rw [e1]; exact hP9, e2⟩), fun h7 => h7.imp id (fun ⟨e1, e2⟩ => ⟨e1.2.2, e2⟩)⟩), k3⟩))
        | succ k ihc =>
          intro s x4 y hs hf ho hx4 hcol
          have o2 := oY hf
          have hsl : s < 2 * A.flatten.length := by omega
          have e14 : y.2.1 (n + 14) s = M s := by rw [(hf (n + 14) (by unfold frC; omega)).2.1, hM]
          have hhl := hdv_lt hsl
          have hnl := rn_nx_lt (A := A) (v := s / 2) (by omega)
          have c6 : ∀ (y2 : ow_MS) (x9 : Int32), fr frC z0 y2 → Φ y2 S1 L2 → (x9 = 0 ∧ (∀ t, t ∈ fl M f (s + 1) → ¬ t4o A t) ∨ x9 = 1 ∧ ∃ t, t ∈ fl M f (s + 1) ∧ t4o A t) → (∀ i t, (fl M f (s + 1))[i]? = some t → y2.2.1 33 i = nI (t / 2) ∧ y2.2.1 34 i = nI (crs A (hdv A t))) → Tt (fun K i => q_X13_threeChange K i 6 (nI f) (nI (fl M f (s + 1)).length) x9 (nI s) 0 n 0 0 0 y2) Q := by
            intro y2 x9 hf2 ho2 hx9 hcol2
            refine u_X13_threeChange_6 ?_; unfold qm_X13_threeChange_6
            rw [nI_1]
            exact ihc (s + 1) x9 y2 (by omega) hf2 ho2 hx9 hcol2
          refine u_X13_threeChange_2 ?_; unfold qm_X13_threeChange_2
          refine w_rdF o2.1.V ?_
          rw [rn_mul2]
          refine w_leF (by omega) (by omega) (w_rdI (pl14 hn) rfl (by omega) e14 (w_if (fun hMs => ?_) (fun hMs => ?_)))
          · have hfs : fl M f (s + 1) = fl M f s ++ [s] := by rw [fl_s, if_pos hMs]
            have hk3 : (fl M f s).length < 3 := by
              have h9 := cE_mono (M := M) (x := nI f) (a := s + 1) (b := 2 * A.flatten.length) (by omega)
              rw [← fl_len, ← fl_len, hfs, List.length_append] at h9
              have : (fl M f s).length + 1 ≤ (fl M f (2 * A.flatten.length)).length := h9
              omega
            rw [rn_shr1 (by omega)]
            refine w_wrI ml33 rfl hk3 ?_
            have f33 : fr (fun g => g = 33) y (usI y 33 (fl M f s).length (nI (s / 2))) := fr_I rfl
            have o3 := oNet_fr f33 (fun g hg => by omega) o2
            have c3 : Tt (fun K i => q_X13_threeChange K i 3 (nI f) (nI (fl M f s).length) x4 (nI s) (nI (s / 2)) n (nI (hdv A s)) 0 (nI (fl M f s).length) (usI y 33 (fl M f s).length (nI (s / 2)))) Q := by
              have f34 : fr (fun g => g = 33 ∨ g = 34) y (usI (usI y 33 (fl M f s).length (nI (s / 2))) 34 (fl M f s).length (nI (crs A (hdv A s)))) := fr_I2 (fr_I (Or.inl rfl)) (Or.inr rfl)
              have o4 := oNet_fr f34 (fun g hg => by omega) o2
              have c5 : ∀ (t0 t1 : Int32), ((t1 ||| t0) = 0 ∧ (∀ t, t ∈ fl M f (s + 1) → ¬ t4o A t) ∨ (t1 ||| t0) = 1 ∧ ∃ t, t ∈ fl M f (s + 1) ∧ t4o A t) → Tt (fun K i => q_X13_threeChange K i 5 (nI f) (nI (fl M f s).length) x4 (nI s) (nI (s / 2)) n t0 t1 0 (usI (usI y 33 (fl M f s).length (nI (s / 2))) 34 (fl M f s).length (nI (crs A (hdv A s))))) Q := by
                intro t0 t1 hx9
                have := c6 (usI (usI y 33 (fl M f s).length (nI (s / 2))) 34 (fl M f s).length (nI (crs A (hdv A s)))) (t1 ||| t0) (fr_tr hf (fr_mono (fun g hg => Or.inl (by omega)) f34)) (hΦ.1 _ _ _ _ _ f34 (fun g hg => by omega) ho) hx9 (by
                  rw [hfs]
                  intro i t hi
                  by_cases hil : i < (fl M f s).length
                  · rw [List.getElem?_append_left hil] at hi
                    obtain ⟨k1, k2⟩ := hcol i t hi
                    exact ⟨rd_ot (by decide) (rd_ne (by omega) k1), rd_ne (by omega) (rd_ot (by decide) k2)⟩
                  · have hie : i = (fl M f s).length := by
                      have := (List.getElem?_eq_some_iff.mp hi).1
                      rw [List.length_append] at this
                      have : i < (fl M f s).length + 1 := this
                      omega
                    subst hie
                    rw [List.getElem?_append_right (Nat.le_refl _), Nat.sub_self] at hi
                    cases hi
                    exact ⟨rd_ot (by decide) po_usI_at, po_usI_at⟩)
                rw [hfs, List.length_append] at this
                refine u_X13_threeChange_5 ?_; unfold qm_X13_threeChange_5
                rw [nI_1]
                exact this
              have c4 : ¬ t4o A s → Tt (fun K i => q_X13_threeChange K i 4 (nI f) (nI (fl M f s).length) x4 (nI s) (nI (s / 2)) n x4 0 0 (usI (usI y 33 (fl M f s).length (nI (s / 2))) 34 (fl M f s).length (nI (crs A (hdv A s))))) Q := by
                intro hno
                refine u_X13_threeChange_4 ?_; unfold qm_X13_threeChange_4
                refine c5 _ _ ?_
                rw [hfs]
                rcases hx4 with ⟨h6, h7⟩ | ⟨h6, t, h7, h8⟩
                · refine Or.inl ⟨by rw [h6]; rfl, fun t ht => ?_⟩
                  rcases List.mem_append.mp ht with h9 | h9
                  · exact h7 t h9
                  · rw [List.mem_singleton.mp h9]
                    exact hno
                · exact Or.inr ⟨by rw [h6]; rfl, t, List.mem_append_left _ h7, h8⟩
              have c5' : t4o A s → Tt (fun K i => q_X13_threeChange K i 5 (nI f) (nI (fl M f s).length) x4 (nI s) (nI (s / 2)) n 1 x4 0 (usI (usI y 33 (fl M f s).length (nI (s / 2))) 34 (fl M f s).length (nI (crs A (hdv A s))))) Q := by
                intro hyes
                refine c5 _ _ (Or.inr ⟨?_, s, by rw [hfs]; exact List.mem_append_right _ (List.mem_singleton.mpr rfl), hyes⟩)
                rcases hx4 with ⟨h6, -⟩ | ⟨h6, -⟩ <;> rw [h6] <;> rfl
              have u1 := (lk_cu o4.1 (i := s / 2) (by omega)).2
              have u2 := (lk_cu o4.1 (i := rn_nx A (s / 2)) hnl).2
              have ul1 : uns A (s / 2) < 2 := (hd.1.2 (s / 2) _ (vAt_of (by omega))).2
              have ul2 : uns A (rn_nx A (s / 2)) < 2 := (hd.1.2 (rn_nx A (s / 2)) _ (vAt_of hnl)).2
              refine u_X13_threeChange_3 ?_; unfold qm_X13_threeChange_3
              exact w_rdI (pl4 hn) rfl (by omega) (lk_cu o3.1 hhl).1 (w_wrI ml34 rfl hk3 (w_rdI (pl5 hn) rfl (by omega) u1 (w_eqN (b := 0) (by omega) (by omega) (fun a1 => w_rdI (pl9 hn) rfl (by omega) (lk_n o4.1 (by omega)) (w_rdI (pl5 hn) rfl (by omega) u2 (w_eqN (b := 0) (by omega) (by omega) (fun a2 => c5' ⟨a1, a2⟩) (fun a2 => c4 (fun h7 => a2 h7.2))))) (fun a1 => c4 (fun h7 => a1 h7.1)))))
            rw [rn_and1 (by omega)]
            refine w_eqN (b := 0) (by omega) (by omega) (fun h9 => w_rdI (pl9 hn) rfl (by omega) (lk_n o3.1 (by omega)) ?_) (fun h9 => ?_)
            · unfold hdv at c3
              rw [if_pos h9] at c3
              exact c3
            · unfold hdv at c3
              rw [if_neg h9] at c3
              exact c3
          · have hfs : fl M f (s + 1) = fl M f s := by rw [fl_s, if_neg hMs, List.append_nil]
            have := c6 y x4 hf ho (by rw [hfs]; exact hx4) (by rw [hfs]; exact hcol)
            rw [hfs] at this
            exact this
      exact col _ 0 0 y (Nat.zero_add _) hf ho (Or.inl ⟨rfl, fun t ht => by simp [fl] at ht⟩) (fun i t hi => by simp [fl] at hi)
  exact out F 0 z0 (by omega) fr_rf ⟨0, Nat.le_refl _, S, adS_eq adS_rf (fun A' sg' => ⟨fun h9 => h9.elim, fun ⟨s, f', h1, _⟩ => by omega⟩), h0⟩
end XK4b
end
section
/-! 99zzzzzzzzzzzd.xtry -/
/-! exact: what a kind of moves offers, of the reference -/
def OM (A : rn_L) (sg : Nat → Bool) (c kd : Nat) (A' : rn_L) (sg' : Nat → Bool) : Prop := match kd with
  | 0 => O0 A sg A.flatten.length A' sg'
  | 1 => c + 1 ≤ 12 ∧ O1 A sg c A' sg'
  | 2 => O2 A sg A.flatten.length A' sg'
  | 3 => c + 2 ≤ 12 ∧ O3 A sg c A' sg'
  | _ => O4 A sg A' sg'
section XTRY
variable {Φ : ow_MS → (List Nat → Prop) → Nat → Prop} {n c kd : Nat} {z : ow_MS} {A : rn_L} {sg : Nat → Bool} {S : List Nat → Prop}
theorem xr_try (hΦ : snkF Φ) (hn : mw_net n) (hn3 : n ≠ 3000) (hok : okF A.flatten c) (hk : kd < 5) (hO : oNet z n A sg) (h : Φ z S 0) : Te (fun K => qe_X13_tryMoves K n (nI kd) z) (fun z1 => (∃ S', adS S S' (OM A sg c kd) ∧ Φ z1 S' 2700) ∧ fr (frT n) z z1) := by
  have hl := hO.len
  have hC := hO.2.2.2
  have hVc := okF_len hok
  have frc : ∀ {y : ow_MS}, fr frC z y → fr (frT n) z y := fun hf => fr_mono (fun g hg => by unfold frC at hg; unfold frT; omega) hf
  have dv : nI A.flatten.length / 2 = nI c := by
    rw [show nI A.flatten.length / 2 = nI (A.flatten.length / 2) from pk_div (d := 2) (by omega) (by omega) (by omega)]
    congr 1
    omega
  have none : ∀ {P : Prop} {O : rn_L → (Nat → Bool) → Prop}, ¬ P → adS S S (fun A' sg' => P ∧ O A' sg') := fun hP => adS_eq adS_rf (fun A' sg' => ⟨fun h9 => h9.elim, fun h9 => absurd h9.1 hP⟩)
  have some9 : ∀ {P : Prop} {S' : List Nat → Prop} {O : rn_L → (Nat → Bool) → Prop}, P → adS S S' O → adS S S' (fun A' sg' => P ∧ O A' sg') := fun hP h8 => adS_eq h8 (fun A' sg' => ⟨fun h9 => ⟨hP, h9⟩, fun h9 => h9.2⟩)
  match kd, hk with
  | 0, _ => exact w_monoE (xr_k0 hΦ hn hn3 (by omega) hO h) (fun z1 ⟨⟨S', h1, h2⟩, h3⟩ => ⟨⟨S', h1, hΦ.2.2 _ _ _ _ (by omega) h2⟩, frc h3⟩)
  | 1, _ =>
    refine e_X13_tryMoves ?_
    refine u_X13_tryMoves_0 ?_; unfold qm_X13_tryMoves_0
    refine w_ifF (by decide) (w_ifF (by decide) (w_ifT rfl (w_rdF hO.1.V (w_nzI (by decide) ?_))))
    rw [dv, nI_1]
    exact w_lt (a := 12) (by omega) (by omega) (fun h9 => w_some ⟨⟨S, none (by omega), hΦ.2.2 _ _ _ _ (by omega) h⟩, fr_rf⟩) (fun h9 => w_cs0 (xr_oneComes (L := 0) hΦ hn hn3 hok (by omega) (by omega) hO h) (fun y ⟨⟨S', q0, q1⟩, q2⟩ => w_some ⟨⟨S', some9 (by omega) q0, hΦ.2.2 _ _ _ _ (by omega) q1⟩, fr_mono (fun g hg => by unfold frB at hg; unfold frT; omega) q2⟩))
  | 2, _ =>
    refine e_X13_tryMoves ?_
    refine u_X13_tryMoves_0 ?_; unfold qm_X13_tryMoves_0
    exact w_ifF (by decide) (w_ifF (by decide) (w_ifF (by decide) (w_ifT rfl (w_cs0 (xr_twoGo (L := 0) hΦ hn hn3 (by omega) hO h) (fun y ⟨⟨S', q0, q1⟩, q2⟩ => w_some ⟨⟨S', q0, hΦ.2.2 _ _ _ _ (by omega) q1⟩, frc q2⟩)))))
  | 3, _ =>
    refine e_X13_tryMoves ?_
    refine u_X13_tryMoves_0 ?_; unfold qm_X13_tryMoves_0
    refine w_ifF (by decide) (w_ifF (by decide) (w_ifF (by decide) (w_ifF (by decide) (w_ifT rfl (w_rdF hO.1.V (w_nzI (by decide) ?_))))))
    rw [dv, show nI c + 2 = nI (c + 2) from nI_add c 2]
    exact w_lt (a := 12) (by omega) (by omega) (fun h9 => w_some ⟨⟨S, none (by omega), hΦ.2.2 _ _ _ _ (by omega) h⟩, fr_rf⟩) (fun h9 => w_cs0 (xr_twoCome hΦ hn hn3 hok (by omega) hO h) (fun y ⟨⟨S', q0, q1⟩, q2⟩ => w_some ⟨⟨S', some9 (by omega) q0, q1⟩, frc q2⟩))
  | 4, _ =>
    refine e_X13_tryMoves ?_
    refine u_X13_tryMoves_0 ?_; unfold qm_X13_tryMoves_0
    exact w_ifT (by decide) (w_cs0 (xr_three hΦ hn hn3 hO h) (fun y ⟨⟨S', q0, q1⟩, q2⟩ => w_some ⟨⟨S', q0, q1⟩, q2⟩))
end XTRY
end
section
/-! 99zzzzzzzzzzze.xp0 -/
/-! the moves of both sides: kinds 0 and 2 -/
/-- what a kind of moves makes on both sides, by nets -/
def mBi (kd : Nat) (A : rn_L) (sg : Nat → Bool) (R : ow_NT) : Prop := (∀ j, j < mv_cnt R.1 kd → (∃ (F P : Nat → Int32) (Q : ow_NT), mv_mk kd R F P ∧ ow_b24 Q.2.2.1 ∧ mv_B kd j Q R F P = true) → ∃ A' sg', OM A sg R.1 kd A' sg' ∧ ∀ (F P : Nat → Int32) (Q : ow_NT), mv_mk kd R F P → ow_b24 Q.2.2.1 → mv_B kd j Q R F P = true ∧ ∃ f, isoV A' sg' f (mv_T kd j Q R F P)) ∧ ∀ A' sg', OM A sg R.1 kd A' sg' → ∃ j, j < mv_cnt R.1 kd ∧ ∀ (F P : Nat → Int32) (Q : ow_NT), mv_mk kd R F P → ow_b24 Q.2.2.1 → mv_B kd j Q R F P = true ∧ ∃ f, isoV A' sg' f (mv_T kd j Q R F P)
def idN (x : Nat) : Nat := x
theorem woA_wox {A : rn_L} {x : Nat} (hu : ∀ p, p ∈ A.flatten → p.2 < 2) (y : Nat) : woA x y A = wox (wox A x) y := by
  unfold woA wox rmv
  rw [List.map_map, List.map_map, List.map_map]
  refine List.map_congr_left (fun L hL => ?_)
  show _ = List.filter _ (List.filter _ (List.filter _ (List.filter _ L)))
  rw [List.filter_filter, List.filter_filter, List.filter_filter]
  refine List.filter_congr (fun p hp => ?_)
  have h2 := hu p (List.mem_flatten.mpr ⟨L, hL, hp⟩)
  have key : ∀ t : Nat, (p.1 ≠ t) ↔ (p ≠ (t, 1) ∧ p ≠ (t, 0)) := by
    intro t
    constructor
    · intro h9
      exact ⟨fun e => h9 (by rw [e]), fun e => h9 (by rw [e])⟩
    · rintro ⟨g1, g2⟩ e
      have : p.2 = 0 ∨ p.2 = 1 := by omega
      rcases this with e2 | e2
      · exact g2 (Prod.ext e e2)
      · exact g1 (Prod.ext e e2)
  rw [Bool.eq_iff_iff]
  simp only [Bool.and_eq_true, decide_eq_true_iff, key, and_assoc, and_comm, and_left_comm]
theorem wox_no {A : rn_L} {x : Nat} (h : ∀ p, p ∈ A.flatten → p.1 ≠ x) : wox A x = A := by
  unfold wox rmv
  rw [List.map_map]
  refine (List.map_congr_left (fun L hL => ?_)).trans (List.map_id _)
  show List.filter _ (List.filter _ L) = L
  have hL9 : ∀ u, (x, u) ∉ L := fun u h9 => h _ (List.mem_flatten.mpr ⟨L, hL, h9⟩) rfl
  rw [fil_n (hL9 0), fil_n (hL9 1)]
theorem woA_sy {A : rn_L} {x y : Nat} : woA x y A = woA y x A := by
  unfold woA
  refine List.map_congr_left (fun L hL => List.filter_congr (fun p hp => Bool.and_comm _ _))
section XP0
variable {A : rn_L} {sg : Nat → Bool} {R Q : ow_NT}
theorem isoV_cpy {f : Nat → Nat} (h : isoV A sg f R) : isoV A sg f (nt_copy Q R) := by
  have key : ∀ {β : Type} (f g : Nat → β) (n k : Nat), k < n → va_cpy f g 0 0 n k = f k := fun f g n k hk => by
    rw [pk_cpy_in (Nat.zero_le k) (by omega), Nat.zero_add, Nat.sub_zero]
  exact isoV_cg h rfl rfl (fun k hk => ⟨key _ _ _ _ hk, key _ _ _ _ hk⟩) (fun x hx => key _ _ _ _ hx)
/-- a visit by its crossing -/
theorem vis_of (h : isoV A sg idN R) {x u : Nat} (hx : x < R.1) (hu : u < 2) : ∃ v, v < A.flatten.length ∧ crs A v = x ∧ uns A v = u ∧ lbv A idN v = 2 * x + u := by
  obtain ⟨v, hv, e⟩ := lbv_sur (isoS_iff.mp h.1) (k := 2 * x + u) (by omega)
  obtain ⟨e1, e2⟩ := lbv_hf (isoS_iff.mp h.1) hv
  have e1 : lbv A idN v / 2 = crs A v := e1
  exact ⟨v, hv, by omega, by omega, e⟩
theorem lb_un (h : isoV A sg idN R) {v : Nat} (hv : v < A.flatten.length) : lbv A idN v = 2 * crs A v + uns A v ∧ uns A v < 2 ∧ crs A v < R.1 ∧ R.2.2.1.1 (lbv A idN v) = lbv A idN (rn_nx A v) ∧ lbv A idN (mtf A v) = mt (lbv A idN v) := by
  have hi := isoS_iff.mp h.1
  obtain ⟨e1, e2⟩ := lbv_hf hi hv
  have h9 := lbv_lt hi hv
  have e1 : lbv A idN v / 2 = crs A v := e1
  exact ⟨rfl, by omega, by omega, hi.2.2.2.2.2.1 v hv, (lbv_mt hi hv).2.2.1⟩
theorem mb_0 (h : isoV A sg idN R) : mBi 0 A sg R := by
  have hi := isoS_iff.mp h.1
  have hd := wkF_ok h.1.1
  have hu : ∀ p, p ∈ A.flatten → p.2 < 2 := fun p hp => (h.1.1.2 p hp).2.1
  have one : ∀ {x : Nat} {Q : ow_NT}, x < R.1 → ∃ f, isoV (woA x x A) sg f (nt_rm (nt_copy Q R) x) := by
    intro x Q hx
    obtain ⟨v, hv, e1, e2, e3⟩ := vis_of h hx (u := 0) (by omega)
    have hm := vAt_mem hv
    have e9 : vAt A v = (x, 0) := Prod.ext e1 e2
    rw [e9] at hm
    obtain ⟨f', k1, -⟩ := iso_rm (isoV_cpy (Q := Q) h) hm
    refine ⟨f', ?_⟩
    rw [woA_wox hu x, wox_no (fun p hp => ((wox_mem hu).mp hp).2)]
    exact k1
  constructor
  · rintro j hj ⟨F, P, Q, hmk, hQ, hB⟩
    have hj : j < R.1 := hj
    have hB : mv_bs R.2.2.1.1 (2 * j) (2 * j + 1) = true := hB
    have hB9 := hB
    refine ⟨woA j j A, sg, ⟨rfl, ?_⟩, fun F' P' Q' _ _ => ⟨hB9, ?_⟩⟩
    · have main : ∀ u, u < 2 → R.2.2.1.1 (2 * j + u) = mt (2 * j + u) → ∃ v, v < A.flatten.length ∧ rn_nx A v = mtf A v ∧ woA j j A = woA (crs A v) (crs A v) A := by
        intro u hu2 e
        obtain ⟨v, hv, e1, e2, e3⟩ := vis_of h hj hu2
        obtain ⟨-, -, -, q4, q5⟩ := lb_un h hv
        refine ⟨v, hv, ?_, by rw [e1]⟩
        refine lbv_inj hi (rn_nx_lt hv) (mtf_lt hd hv) ?_
        show lbv A idN _ = lbv A idN _
        rw [← q4, q5, e3, e]
      unfold mv_bs at hB
      rw [Bool.or_eq_true, decide_eq_true_iff, decide_eq_true_iff] at hB
      rcases hB with hB | hB
      · refine main 0 (by omega) ?_
        rw [Nat.add_zero, hB]
        unfold mt
        rw [if_pos (by omega)]
      · refine main 1 (by omega) ?_
        rw [hB]
        unfold mt
        rw [if_neg (by omega)]
        omega
    · show ∃ f, isoV _ _ f (mv_t0 Q' R j)
      unfold mv_t0
      rw [if_pos hB9]
      exact one hj
  · rintro A' sg' ⟨rfl, v, hv, e, rfl⟩
    obtain ⟨q1, q2, q3, q4, q5⟩ := lb_un h hv
    refine ⟨crs A v, q3, fun F P Q hmk hQ => ?_⟩
    have hB : mv_bs R.2.2.1.1 (2 * crs A v) (2 * crs A v + 1) = true := by
      unfold mv_bs
      rw [Bool.or_eq_true, decide_eq_true_iff, decide_eq_true_iff]
      rw [e, q5, q1] at q4
      unfold mt at q4
      rcases (show uns A v = 0 ∨ uns A v = 1 by omega) with e2 | e2 <;> rw [e2] at q4
      · rw [if_pos (by omega)] at q4
        exact Or.inl q4
      · rw [if_neg (by omega)] at q4
        exact Or.inr q4
    refine ⟨hB, ?_⟩
    obtain ⟨f, hf⟩ := one (Q := Q) q3
    refine ⟨f, ?_⟩
    show isoV _ _ _ (mv_t0 Q R (crs A v))
    unfold mv_t0
    rw [if_pos hB]
    exact hf
theorem mb_2 (h : isoV A sg idN R) (hp : pm1 R) : mBi 2 A sg R := by
  have hi := isoS_iff.mp h.1
  have hd := wkF_ok h.1.1
  have hu : ∀ p, p ∈ A.flatten → p.2 < 2 := fun p hp => (h.1.1.2 p hp).2.1
  have xm : ∀ {x : Nat}, x < R.1 → (x, 0) ∈ A.flatten := by
    intro x hx
    obtain ⟨v, hv, e1, e2, e3⟩ := vis_of h hx (u := 0) (by omega)
    have hm := vAt_mem hv
    rw [show vAt A v = (x, 0) from Prod.ext e1 e2] at hm
    exact hm
  have sgG : ∀ {x : Nat}, x < R.1 → R.2.2.2 x = if sg x then -1 else 1 := fun hx => iso_sg1 h hp (xm hx)
  have sgN9 : ∀ {x y : Nat}, x < R.1 → y < R.1 → (R.2.2.2 x ≠ R.2.2.2 y ↔ sg x ≠ sg y) := by
    intro x y hx hy
    rw [sgG hx, sgG hy]
    cases sg x <;> cases sg y <;> simp
  have two : ∀ {x y : Nat} {Q : ow_NT}, x < R.1 → y < x → ∃ f, isoV (woA x y A) sg f (nt_rm (nt_rm (nt_copy Q R) x) y) := by
    intro x y Q hx hy
    obtain ⟨f', k1, k2⟩ := iso_rm (isoV_cpy (Q := Q) h) (xm hx)
    have k3 := k2 y
    have k3 : f' y = if y = R.1 - 1 then x else y := k3
    rw [if_neg (by omega)] at k3
    obtain ⟨f2, j1, -⟩ := iso_rm k1 (x0 := y) ((wox_mem hu).mpr ⟨xm (by omega), show y ≠ x by omega⟩)
    rw [k3] at j1
    refine ⟨f2, ?_⟩
    rw [woA_wox hu y]
    exact j1
  have bs9 : ∀ {x y u : Nat}, x < R.1 → y < R.1 → u < 2 → mv_bs R.2.2.1.1 (2 * x + u) (2 * y + u) = true → ∃ v w, v < A.flatten.length ∧ w < A.flatten.length ∧ crs A v = x ∧ uns A v = u ∧ crs A w = y ∧ uns A w = u ∧ (rn_nx A v = w ∨ rn_nx A w = v) := by
    intro x y u hx hy hu2 e
    obtain ⟨v, hv, e1, e2, e3⟩ := vis_of h hx hu2
    obtain ⟨w, hw, g1, g2, g3⟩ := vis_of h hy hu2
    refine ⟨v, w, hv, hw, e1, e2, g1, g2, ?_⟩
    unfold mv_bs at e
    rw [Bool.or_eq_true, decide_eq_true_iff, decide_eq_true_iff, ← e3, ← g3] at e
    rw [(lb_un h hv).2.2.2.1, (lb_un h hw).2.2.2.1] at e
    exact e.imp (fun e => lbv_inj hi (rn_nx_lt hv) hw e) (fun e => lbv_inj hi (rn_nx_lt hw) hv e)
  have same : ∀ {v w : Nat}, v < A.flatten.length → w < A.flatten.length → crs A v = crs A w → uns A v = uns A w → v = w := fun hv hw e1 e2 => lbv_inj hi hv hw (by show lbv A idN _ = lbv A idN _; rw [(lb_un h hv).1, (lb_un h hw).1, e1, e2])
  have mtu : ∀ {v : Nat}, v < A.flatten.length → uns A v = 0 → crs A (mtf A v) = crs A v ∧ uns A (mtf A v) = 1 := by
    intro v hv e
    have h1 := lb_un h hv
    have h2 := lb_un h (mtf_lt hd hv)
    have h3 := h1.2.2.2.2
    rw [h1.1, h2.1, e] at h3
    unfold mt at h3
    rw [if_pos (by omega)] at h3
    omega
  have main9 : ∀ {x y : Nat}, x < R.1 → y < x → R.2.2.2 x ≠ R.2.2.2 y → mv_bs R.2.2.1.1 (2 * x) (2 * y) = true → mv_bs R.2.2.1.1 (2 * x + 1) (2 * y + 1) = true → ∃ v, v < A.flatten.length ∧ tw2 A sg v ∧ woA x y A = woA (crs A v) (crs A (rn_nx A v)) A := by
    intro x y hx b1 b2 b3 b4
    have b2 := (sgN9 hx (by omega)).mp b2
    obtain ⟨v, w, hv, hw, e1, e2, e3, e4, e5⟩ := bs9 (u := 0) hx (show y < R.1 by omega) (by omega) b3
    obtain ⟨v', w', hv', hw', g1, g2, g3, g4, g5⟩ := bs9 (u := 1) hx (show y < R.1 by omega) (by omega) b4
    have mv := mtu hv e2
    have mw := mtu hw e4
    have ev : mtf A v = v' := same (mtf_lt hd hv) hv' (by rw [mv.1, e1, g1]) (by rw [mv.2, g2])
    have ew : mtf A w = w' := same (mtf_lt hd hw) hw' (by rw [mw.1, e3, g3]) (by rw [mw.2, g4])
    rcases e5 with e5 | e5
    · refine ⟨v, hv, ?_, by rw [e5, e1, e3]⟩
      unfold tw2
      rw [e5, ev, ew, e1, e3]
      exact ⟨e2, e4, by omega, b2, g5⟩
    · refine ⟨w, hw, ?_, by rw [e5, e1, e3]; exact woA_sy⟩
      unfold tw2
      rw [e5, ev, ew, e1, e3]
      exact ⟨e4, e2, by omega, b2.symm, g5.symm⟩
  constructor
  · rintro j hj ⟨F, P, Q, hmk, hQ, hB⟩
    have hj : j < R.1 * R.1 := hj
    have hB : mv_b2 R (j / R.1) (j % R.1) = true := hB
    have hB9 := hB
    have hc : 0 < R.1 := by
      rcases Nat.eq_zero_or_pos R.1 with e | e
      · rw [e] at hj; omega
      · exact e
    have hx : j / R.1 < R.1 := Nat.div_lt_of_lt_mul hj
    unfold mv_b2 mv_pair at hB
    rw [Bool.and_eq_true, Bool.and_eq_true, Bool.and_eq_true, decide_eq_true_iff, decide_eq_true_iff] at hB
    obtain ⟨b1, ⟨b2, b3⟩, b4⟩ := hB
    refine ⟨woA (j / R.1) (j % R.1) A, sg, ⟨rfl, ?_⟩, fun F' P' Q' _ _ => ⟨hB9, by
      show ∃ f, isoV _ _ f (mv_t2 Q' R (j / R.1) (j % R.1))
      unfold mv_t2
      rw [if_pos hB9]
      exact two hx b1⟩⟩
    exact main9 hx b1 b2 b3 b4
  · rintro A' sg' ⟨rfl, v, hv, ⟨t1, t2, t3, t4, t5⟩, rfl⟩
    obtain ⟨w, hw9⟩ : ∃ w, w = rn_nx A v := ⟨_, rfl⟩
    have hw : w < A.flatten.length := by rw [hw9]; exact rn_nx_lt hv
    rw [← hw9] at t2 t3 t4 t5 ⊢
    have lv := lb_un h hv
    have lw := lb_un h hw
    have mv := mtu hv t1
    have mw := mtu hw t2
    have lmv := lb_un h (mtf_lt hd hv)
    have lmw := lb_un h (mtf_lt hd hw)
    have ob : R.2.2.1.1 (2 * crs A v) = 2 * crs A w := by
      have := lv.2.2.2.1
      rw [← hw9, lv.1, lw.1, t1, t2] at this
      exact this
    have ub : R.2.2.1.1 (2 * crs A v + 1) = 2 * crs A w + 1 ∨ R.2.2.1.1 (2 * crs A w + 1) = 2 * crs A v + 1 := by
      refine t5.imp (fun e => ?_) (fun e => ?_)
      · have := lmv.2.2.2.1
        rw [e, lmv.1, lmw.1, mv.1, mv.2, mw.1, mw.2] at this
        exact this
      · have := lmw.2.2.2.1
        rw [e, lmv.1, lmw.1, mv.1, mv.2, mw.1, mw.2] at this
        exact this
    have fin : ∀ x y, y < x → x < R.1 → sg' x ≠ sg' y → (R.2.2.1.1 (2 * x) = 2 * y ∨ R.2.2.1.1 (2 * y) = 2 * x) → (R.2.2.1.1 (2 * x + 1) = 2 * y + 1 ∨ R.2.2.1.1 (2 * y + 1) = 2 * x + 1) → ∃ j, j < mv_cnt R.1 2 ∧ ∀ (F P : Nat → Int32) (Q : ow_NT), mv_mk 2 R F P → ow_b24 Q.2.2.1 → mv_B 2 j Q R F P = true ∧ ∃ f, isoV (woA x y A) sg' f (mv_T 2 j Q R F P) := by
      intro x y hy hx hs o1 u1
      have d1 : (x * R.1 + y) / R.1 = x := by
        rw [Nat.mul_comm, Nat.mul_add_div (by omega), Nat.div_eq_of_lt (by omega), Nat.add_zero]
      have d2 : (x * R.1 + y) % R.1 = y := by
        rw [Nat.mul_comm, Nat.mul_add_mod, Nat.mod_eq_of_lt (by omega)]
      refine ⟨x * R.1 + y, ?_, fun F P Q hmk hQ => ?_⟩
      · show x * R.1 + y < R.1 * R.1
        have := Nat.mul_le_mul_right R.1 (show x + 1 ≤ R.1 by omega)
        rw [Nat.succ_mul] at this
        omega
      · have hB : mv_b2 R x y = true := by
          unfold mv_b2 mv_pair mv_bs
          rw [Bool.and_eq_true, Bool.and_eq_true, Bool.and_eq_true, Bool.or_eq_true, Bool.or_eq_true, decide_eq_true_iff, decide_eq_true_iff, decide_eq_true_iff, decide_eq_true_iff, decide_eq_true_iff, decide_eq_true_iff]
          exact ⟨hy, ⟨(sgN9 hx (by omega)).mpr hs, o1⟩, u1⟩
        show mv_b2 R ((x * R.1 + y) / R.1) ((x * R.1 + y) % R.1) = true ∧ ∃ f, isoV _ _ f (mv_t2 Q R ((x * R.1 + y) / R.1) ((x * R.1 + y) % R.1))
        rw [d1, d2]
        refine ⟨hB, ?_⟩
        unfold mv_t2
        rw [if_pos hB]
        exact two hx hy
    by_cases hlt : crs A v < crs A w
    · rw [woA_sy]
      exact fin (crs A w) (crs A v) hlt lw.2.2.1 t4.symm (Or.inr ob) ub.symm
    · exact fin (crs A v) (crs A w) (by omega) lv.2.2.1 t4 (Or.inl ob) ub
end XP0
end
section
/-! 99zzzzzzzzzzzf.xp4 -/
/-! the moves of both sides: kind 4 -/
def swv (p q r : vT) : vT := if r = p then q else if r = q then p else r
theorem swv_i (p q r : vT) : swv p q (swv p q r) = r := by
  unfold swv
  by_cases e1 : r = p
  · rw [if_pos e1]
    by_cases e2 : q = p
    · rw [if_pos e2, e2, e1]
    · rw [if_neg e2, if_pos rfl, e1]
  · rw [if_neg e1]
    by_cases e2 : r = q
    · rw [if_pos e2, if_pos rfl, e2]
    · rw [if_neg e2, if_neg e1, if_neg e2]
theorem swv_inj {p q a b : vT} (h : swv p q a = swv p q b) : a = b := by
  have := congrArg (swv p q) h
  rw [swv_i, swv_i] at this
  exact this
section XP4
variable {A : rn_L} {sg : Nat → Bool} {f : Nat → Nat} {T R Q : ow_NT} {p q : vT}
theorem swv_mem (hp : p ∈ A.flatten) (hq : q ∈ A.flatten) {r : vT} (hr : r ∈ A.flatten) : swv p q r ∈ A.flatten := by
  unfold swv
  repeat' split
  all_goals assumption
theorem swA_fl : (A.map (List.map (swv p q))).flatten = A.flatten.map (swv p q) := (List.map_flatten ..).symm
theorem swA_pm (hn : A.flatten.Nodup) (hp : p ∈ A.flatten) (hq : q ∈ A.flatten) : (A.map (List.map (swv p q))).flatten.Perm A.flatten := by
  rw [swA_fl]
  refine (List.perm_ext_iff_of_nodup (nodup_map hn (fun a b _ _ e => swv_inj e)) hn).mpr (fun r => ?_)
  rw [List.mem_map]
  constructor
  · rintro ⟨a, ha, rfl⟩
    exact swv_mem hp hq ha
  · intro hr
    exact ⟨swv p q r, swv_mem hp hq hr, swv_i p q r⟩
/-- two visits change places in a net and in its list -/
theorem iso_swv (h : isoV A sg f T) (hp : p ∈ A.flatten) (hq : q ∈ A.flatten) : isoV (A.map (List.map (swv p q))) sg f (nt_swap T (gl f p) (gl f q)) := by
  have hn := h.1.1.1
  have hg := gl_gin h.1
  have pm := swA_pm hn hp hq
  have hv := isoV_vn h
  have key : ∀ r, r ∈ A.flatten → np_sw (gl f r) (gl f p) (gl f q) = gl f (swv p q r) := by
    intro r hr
    unfold np_sw swv
    by_cases e1 : r = p
    · rw [if_pos (by rw [e1]), if_pos e1]
    · rw [if_neg (fun e => e1 (hg r p hr hp e)), if_neg e1]
      by_cases e2 : r = q
      · rw [if_pos (by rw [e2]), if_pos e2]
      · rw [if_neg (fun e => e2 (hg r q hr hq e)), if_neg e2]
  refine isoV_of (isoS_iff.mp ⟨wkF_perm pm h.1.1, by rw [pm.length_eq]; exact h.1.2.1, h.1.2.2.1, fun r h9 => h.1.2.2.2.1 r (pm.mem_iff.mp h9), fun r r' h8 h9 e => h.1.2.2.2.2.1 r r' (pm.mem_iff.mp h8) (pm.mem_iff.mp h9) e, fun L l1 r r1 => ?_, fun r h9 => h.1.2.2.2.2.2.2.1 r (pm.mem_iff.mp h9), by rw [cirs_map]; exact h.1.2.2.2.2.2.2.2⟩) (vD_vn.mp (vD_swap (vD_vn.mpr hv) (gl_lt h hp) (gl_lt h hq)))
  obtain ⟨L0, hL0, rfl⟩ := List.mem_map.mp l1
  obtain ⟨r0, hr0, rfl⟩ := List.mem_map.mp r1
  have hr9 : r0 ∈ A.flatten := List.mem_flatten.mpr ⟨L0, hL0, hr0⟩
  have nL := L_nd hn hL0
  have hs9 : sc L0 r0 ∈ A.flatten := List.mem_flatten.mpr ⟨L0, hL0, sc_in hr0 nL⟩
  show (np_swap T.2.2.1 (gl f p) (gl f q)).1 (gl f (swv p q r0)) = gl f (sc (L0.map (swv p q)) (swv p q r0))
  rw [np_swap_1 (D := fun k => k < 2 * T.1) (vD_vn.mpr hv) (gl_lt h hp) (gl_lt h hq) (gl_lt h (swv_mem hp hq hr9)), key _ (swv_mem hp hq hr9), swv_i, (h.2 L0 hL0 r0 hr0).1, key _ hs9, sc_map nL (fun a b _ _ e => swv_inj e) hr0]
theorem rsh_id : rsh A (vAt A) A.length = A := by
  refine List.ext_getElem? (fun i => ?_)
  unfold rsh
  rw [List.getElem?_map]
  by_cases hi : i < A.length
  · rw [List.getElem?_range hi, List.getElem?_eq_getElem hi]
    have := cmp_seg (A := A) hi
    rw [List.getD_eq_getElem?_getD, List.getElem?_eq_getElem hi] at this
    have e : List.range' (rn_b A i) (rlen A i) = seg (rn_b A i) (rn_b A (i + 1)) := by
      unfold seg rlen
      exact List.range'_eq_map_range ..
    show some ((List.range' (rn_b A i) (rlen A i)).map (vAt A)) = _
    rw [e]
    exact congrArg some this
  · rw [List.getElem?_eq_none (by rw [List.length_range]; omega), List.getElem?_eq_none (by omega)]
    rfl
theorem rsh_cg {G H : Nat → Nat × Nat} (h : ∀ v, v < A.flatten.length → G v = H v) : rsh A G A.length = rsh A H A.length := by
  unfold rsh
  refine List.map_congr_left (fun c hc => List.map_congr_left (fun v hv => h v ?_))
  have hc := List.mem_range.mp hc
  rw [List.mem_range'_1] at hv
  unfold rlen at hv
  have h1 := rn_b_mono A c
  have h2 := rnb_mono2 (A := A) (a := c + 1) (b := A.length) (by omega)
  rw [rn_b_len] at h2
  omega
theorem rsh_map (σ : vT → vT) (G : Nat → Nat × Nat) (k : Nat) : rsh A (fun v => σ (G v)) k = (rsh A G k).map (List.map σ) := by
  unfold rsh
  rw [List.map_map]
  refine List.map_congr_left (fun c hc => ?_)
  show _ = List.map σ (List.map G _)
  rw [List.map_map]
  rfl
theorem vAt_sw (hn : A.flatten.Nodup) {a b v : Nat} (ha : a < A.flatten.length) (hb : b < A.flatten.length) (hv : v < A.flatten.length) : vAt A (sw2 a b v) = swv (vAt A a) (vAt A b) (vAt A v) := by
  have inj : ∀ {x y : Nat}, x < A.flatten.length → y < A.flatten.length → vAt A x = vAt A y → x = y := fun hx hy e => nodup_at hn (vAt_of hx) (by rw [e]; exact vAt_of hy)
  unfold sw2 swv
  by_cases e1 : v = a
  · rw [if_pos e1, if_pos (by rw [e1])]
  · rw [if_neg e1, if_neg (fun e => e1 (inj hv ha e))]
    by_cases e2 : v = b
    · rw [if_pos e2, if_pos (by rw [e2])]
    · rw [if_neg e2, if_neg (fun e => e2 (inj hv hb e))]
theorem t4_swv (hn : A.flatten.Nodup) {a b c : Nat} (ha : a < 2 * A.flatten.length) (hb : b < 2 * A.flatten.length) (hc : c < 2 * A.flatten.length) : t4A A a b c = ((A.map (List.map (swv (vAt A (c / 2)) (vAt A (rn_nx A (c / 2)))))).map (List.map (swv (vAt A (b / 2)) (vAt A (rn_nx A (b / 2)))))).map (List.map (swv (vAt A (a / 2)) (vAt A (rn_nx A (a / 2))))) := by
  have na := rn_nx_lt (A := A) (v := a / 2) (by omega)
  have nb := rn_nx_lt (A := A) (v := b / 2) (by omega)
  have nc := rn_nx_lt (A := A) (v := c / 2) (by omega)
  have e9 : ∀ σ : vT → vT, A.map (List.map σ) = rsh A (fun v => σ (vAt A v)) A.length := fun σ => by rw [rsh_map, rsh_id]
  rw [e9, ← rsh_map, ← rsh_map]
  unfold t4A
  refine rsh_cg (fun v hv => ?_)
  have h1 := sw2_lt (a := c / 2) (b := rn_nx A (c / 2)) (by omega) nc hv
  have h2 := sw2_lt (a := b / 2) (b := rn_nx A (b / 2)) (by omega) nb h1
  rw [vAt_sw hn (by omega) na h2, vAt_sw hn (by omega) nb h1, vAt_sw hn (by omega) nc hv]
def psS (A : rn_L) (s : Nat) : Nat := 2 * lbv A idN (s / 2) + s % 2
theorem ps_sur (h : isoV A sg idN R) {a : Nat} (ha : a < 4 * R.1) : ∃ s, s < 2 * A.flatten.length ∧ psS A s = a := by
  obtain ⟨v, hv, e⟩ := lbv_sur (isoS_iff.mp h.1) (k := a / 2) (by omega)
  refine ⟨2 * v + a % 2, by omega, ?_⟩
  unfold psS
  rw [show (2 * v + a % 2) / 2 = v by omega, show (2 * v + a % 2) % 2 = a % 2 by omega]
  have e : lbv A idN v = a / 2 := e
  omega
theorem ps_lt (h : isoV A sg idN R) {s : Nat} (hs : s < 2 * A.flatten.length) : psS A s < 4 * R.1 := by
  have := lbv_lt (isoS_iff.mp h.1) (v := s / 2) (by omega)
  unfold psS
  omega
theorem ps_inj (h : isoV A sg idN R) {s t : Nat} (hs : s < 2 * A.flatten.length) (ht : t < 2 * A.flatten.length) (e : psS A s = psS A t) : s = t := by
  unfold psS at e
  have := lbv_inj (isoS_iff.mp h.1) (v := s / 2) (w := t / 2) (by omega) (by omega) (show lbv A idN (s / 2) = lbv A idN (t / 2) by omega)
  omega
theorem ps_end (h : isoV A sg idN R) {s : Nat} (hs : s < 2 * A.flatten.length) : fc_end R.2.2.1.1 (psS A s) = lbv A idN (hdv A s) := by
  unfold fc_end psS hdv
  rw [show (2 * lbv A idN (s / 2) + s % 2) % 2 = s % 2 by omega, show (2 * lbv A idN (s / 2) + s % 2) / 2 = lbv A idN (s / 2) by omega]
  by_cases e : s % 2 = 0
  · rw [if_pos e, if_pos e]
    exact (lb_un h (by omega)).2.2.2.1
  · rw [if_neg e, if_neg e]
theorem ps_on (h : isoV A sg idN R) (hp : pm1 R) {s : Nat} (hs : s < 2 * A.flatten.length) : fc_on R.2.2.1 R.2.2.2 (psS A s) = psS A (phi A sg s) := by
  have hi := isoS_iff.mp h.1
  have hh := hdv_lt (A := A) hs
  have hb : stG R.2.2.2 (lbv A idN (hdv A s)) = smv A sg (hdv A s) := smv_b hi hp hh
  obtain ⟨-, -, -, -, m5⟩ := lb_un h hh
  have m1 := mtf_lt (wkF_ok h.1.1) hh
  have m2 := rn_pv_lt (A := A) m1
  have e0 : fc_on R.2.2.1 R.2.2.2 (psS A s) = if (stG R.2.2.2 (fc_end R.2.2.1.1 (psS A s)) == decide (psS A s % 2 = 0)) = true then 2 * mt (fc_end R.2.2.1.1 (psS A s)) else 2 * R.2.2.1.2 (mt (fc_end R.2.2.1.1 (psS A s))) + 1 := rfl
  have e2 : psS A s % 2 = s % 2 := by unfold psS; omega
  rw [e0, ps_end h hs, hb, e2, ← m5]
  have pv : R.2.2.1.2 (lbv A idN (mtf A (hdv A s))) = lbv A idN (rn_pv A (mtf A (hdv A s))) := by
    have h1 := (lb_un h m2).2.2.2.1
    rw [nx_pv m1] at h1
    rw [← h1]
    exact (isoV_vn h _ (lbv_lt hi m2)).2.2.1
  rw [pv]
  unfold phi wyv psS
  rcases (show s % 2 = 0 ∨ s % 2 = 1 by omega) with e | e <;> rw [e] <;> cases smv A sg (hdv A s)
  · rw [if_neg (by decide), if_neg (by decide), show (2 * rn_pv A (mtf A (hdv A s)) + 1) / 2 = rn_pv A (mtf A (hdv A s)) by omega]
    omega
  · rw [if_pos (by decide), if_pos (by decide), show (2 * mtf A (hdv A s)) / 2 = mtf A (hdv A s) by omega]
    omega
  · rw [if_pos (by decide), if_pos (by decide), show (2 * mtf A (hdv A s)) / 2 = mtf A (hdv A s) by omega]
    omega
  · rw [if_neg (by decide), if_neg (by decide), show (2 * rn_pv A (mtf A (hdv A s)) + 1) / 2 = rn_pv A (mtf A (hdv A s)) by omega]
    omega
theorem ps_ov (h : isoV A sg idN R) {s : Nat} (hs : s < 2 * A.flatten.length) : mv_ov R.2.2.1.1 (psS A s) = true ↔ t4o A s := by
  have h1 := lb_un h (v := s / 2) (by omega)
  have h2 := lb_un h (rn_nx_lt (A := A) (v := s / 2) (by omega))
  unfold mv_ov t4o
  have e : psS A s / 2 = lbv A idN (s / 2) := by unfold psS; omega
  rw [Bool.and_eq_true, decide_eq_true_iff, decide_eq_true_iff, e, h1.2.2.2.1, h1.1, h2.1]
  omega
theorem ps_nt (h : isoV A sg idN R) {T : ow_NT} {s : Nat} (hs : s < 2 * A.flatten.length) : nt_sw R T (psS A s) = nt_swap T (gl idN (vAt A (s / 2))) (gl idN (vAt A (rn_nx A (s / 2)))) := by
  have h1 := lb_un h (v := s / 2) (by omega)
  unfold nt_sw
  have e : psS A s / 2 = lbv A idN (s / 2) := by unfold psS; omega
  rw [e, h1.2.2.2.1]
  rfl
theorem ps_b4 (h : isoV A sg idN R) (hp : pm1 R) {s : Nat} (hs : s < 2 * A.flatten.length) : mv_b4 R (psS A s) = true ↔ psS A s < psS A (phi A sg s) ∧ psS A s < psS A (phi A sg (phi A sg s)) ∧ phi A sg (phi A sg (phi A sg s)) = s ∧ (crs A (hdv A s) ≠ crs A (hdv A (phi A sg s)) ∧ crs A (hdv A s) ≠ crs A (hdv A (phi A sg (phi A sg s))) ∧ crs A (hdv A (phi A sg s)) ≠ crs A (hdv A (phi A sg (phi A sg s)))) ∧ (t4o A s ∨ t4o A (phi A sg s) ∨ t4o A (phi A sg (phi A sg s))) := by
  have hd := wkF_ok h.1.1
  have h1 := phi_lt (sg := sg) hd hs
  have h2 := phi_lt (sg := sg) hd h1
  have h3 := phi_lt (sg := sg) hd h2
  have hc : ∀ {t : Nat}, t < 2 * A.flatten.length → lbv A idN (hdv A t) / 2 = crs A (hdv A t) := fun ht => (lbv_hf (isoS_iff.mp h.1) (hdv_lt ht)).1
  unfold mv_b4 mv_pass
  rw [ps_on h hp hs, ps_on h hp h1, ps_on h hp h2, ps_end h hs, ps_end h h1, ps_end h h2, hc hs, hc h1, hc h2]
  simp only [Bool.and_eq_true, Bool.or_eq_true, decide_eq_true_iff, ps_ov h hs, ps_ov h h1, ps_ov h h2]
  constructor
  · rintro ⟨a1, a2, a3, a4, a5, a6, a7⟩
    exact ⟨a1, a2, ps_inj h h3 hs a3, ⟨a4, a6, a5⟩, a7⟩
  · rintro ⟨a1, a2, a3, ⟨a4, a6, a5⟩, a7⟩
    exact ⟨a1, a2, by rw [a3], a4, a5, a6, a7⟩
theorem mb_4 (h : isoV A sg idN R) (hp : pm1 R) : mBi 4 A sg R := by
  have hd := wkF_ok h.1.1
  have hV := h.1.2.1
  have three : ∀ {s : Nat} {Q : ow_NT}, s < 2 * A.flatten.length → mv_b4 R (psS A s) = true → isoV (t4A A s (phi A sg s) (phi A sg (phi A sg s))) sg idN (mv_t4 Q R (psS A s)) := by
    intro s Q hs hB
    have h1 := phi_lt (sg := sg) hd hs
    have h2 := phi_lt (sg := sg) hd h1
    obtain ⟨-, -, b3, b4, -⟩ := (ps_b4 h hp hs).mp hB
    unfold mv_t4
    rw [if_pos hB, ps_on h hp hs, ps_on h hp h1, ps_nt h hs, ps_nt h h1, ps_nt h h2]
    have dj : dj3 A s (phi A sg s) (phi A sg (phi A sg s)) := (tri_pairs (sg := sg) hd ⟨hs, h1, h2⟩ ⟨fun e => b4.1 (by rw [← e]), fun e => b4.2.1 (by rw [← e]), fun e => b4.2.2 (by rw [← e])⟩ (fun t ht => by
      rcases ht with e | e | e <;> rw [e]
      · exact Or.inr (Or.inl rfl)
      · exact Or.inr (Or.inr rfl)
      · exact Or.inl b3) b4.1 b4.2.1 b4.2.2).2.2.2
    rw [t4A_rot dj, t4A_rot (dj3_rot dj), t4A_sw (dj3_rot (dj3_rot dj)), t4_swv h.1.1.1 (by assumption) (by assumption) (by assumption)]
    have m : ∀ {v : Nat}, v < A.flatten.length → vAt A v ∈ A.flatten := fun hv => vAt_mem hv
    have i1 := iso_swv (isoV_cpy (Q := Q) h) (m (v := s / 2) (by omega)) (m (rn_nx_lt (A := A) (v := s / 2) (by omega)))
    have p1 := swA_pm h.1.1.1 (m (v := s / 2) (by omega)) (m (rn_nx_lt (A := A) (v := s / 2) (by omega)))
    have i2 := iso_swv i1 (p1.mem_iff.mpr (m (v := phi A sg s / 2) (by omega))) (p1.mem_iff.mpr (m (rn_nx_lt (A := A) (v := phi A sg s / 2) (by omega))))
    have p2 := (swA_pm i1.1.1.1 (p1.mem_iff.mpr (m (v := phi A sg s / 2) (by omega))) (p1.mem_iff.mpr (m (rn_nx_lt (A := A) (v := phi A sg s / 2) (by omega))))).trans p1
    exact iso_swv i2 (p2.mem_iff.mpr (m (v := phi A sg (phi A sg s) / 2) (by omega))) (p2.mem_iff.mpr (m (rn_nx_lt (A := A) (v := phi A sg (phi A sg s) / 2) (by omega))))
  constructor
  · rintro j hj ⟨F, P, Q, hmk, hQ, hB⟩
    have hj : j < 2 * (2 * R.1) := hj
    have hB : mv_b4 R j = true := hB
    obtain ⟨s, hs, rfl⟩ := ps_sur h (a := j) (by omega)
    obtain ⟨-, -, b3, b4, b5⟩ := (ps_b4 h hp hs).mp hB
    exact ⟨_, sg, ⟨s, hs, rfl, b3, b4, b5, rfl⟩, fun F' P' Q' _ _ => ⟨hB, idN, three hs hB⟩⟩
  · rintro A' sg' ⟨s, hs, rfl, b3, b4, b5, b6⟩
    have main : ∀ t, t < 2 * A.flatten.length → phi A sg' (phi A sg' (phi A sg' t)) = t → t4P A t (phi A sg' t) (phi A sg' (phi A sg' t)) A' → psS A t < psS A (phi A sg' t) → psS A t < psS A (phi A sg' (phi A sg' t)) → ∃ j, j < mv_cnt R.1 4 ∧ ∀ (F P : Nat → Int32) (Q : ow_NT), mv_mk 4 R F P → ow_b24 Q.2.2.1 → mv_B 4 j Q R F P = true ∧ ∃ f, isoV A' sg' f (mv_T 4 j Q R F P) := by
      rintro t ht c1 ⟨c2, c3, rfl⟩ c4 c5
      have hB := (ps_b4 h hp ht).mpr ⟨c4, c5, c1, c2, c3⟩
      have := ps_lt h ht
      exact ⟨psS A t, show psS A t < 2 * (2 * R.1) by omega, fun F P Q hmk hQ => ⟨hB, idN, three ht hB⟩⟩
    obtain ⟨x, hx⟩ : ∃ x, x = phi A sg' s := ⟨_, rfl⟩
    obtain ⟨y, hy⟩ : ∃ y, y = phi A sg' x := ⟨_, rfl⟩
    have hP : t4P A s x y A' := by rw [hy, hx]; exact ⟨b4, b5, b6⟩
    have hxl : x < 2 * A.flatten.length := by rw [hx]; exact phi_lt hd hs
    have hyl : y < 2 * A.flatten.length := by rw [hy]; exact phi_lt hd hxl
    have hys : phi A sg' y = s := by rw [hy, hx]; exact b3
    have nxy : s ≠ x ∧ s ≠ y ∧ x ≠ y := ⟨fun e => hP.1.1 (by rw [← e]), fun e => hP.1.2.1 (by rw [← e]), fun e => hP.1.2.2 (by rw [← e])⟩
    have dj : dj3 A s x y := (tri_pairs (sg := sg') hd ⟨hs, hxl, hyl⟩ nxy (fun t ht => by
      rcases ht with e | e | e <;> rw [e]
      · exact Or.inr (Or.inl hx.symm)
      · exact Or.inr (Or.inr hy.symm)
      · exact Or.inl hys) hP.1.1 hP.1.2.1 hP.1.2.2).2.2.2
    have m1 : psS A s ≠ psS A x := fun e => nxy.1 (ps_inj h hs hxl e)
    have m2 : psS A s ≠ psS A y := fun e => nxy.2.1 (ps_inj h hs hyl e)
    have m3 : psS A x ≠ psS A y := fun e => nxy.2.2 (ps_inj h hxl hyl e)
    have ms := main s hs
    have mx := main x hxl
    have my := main y hyl
    rw [← hx, ← hy, hys] at ms
    rw [← hy, hys, ← hx] at mx
    rw [hys, ← hx, ← hy] at my
    by_cases c1 : psS A s < psS A x ∧ psS A s < psS A y
    · exact ms rfl hP c1.1 c1.2
    · by_cases c2 : psS A x < psS A y ∧ psS A x < psS A s
      · exact mx rfl ((t4P_rot dj).mp hP) c2.1 c2.2
      · exact my rfl ((t4P_rot (dj3_rot dj)).mp ((t4P_rot dj).mp hP)) (by omega) (by omega)
end XP4
end
section
/-! 99zzzzzzzzzzzg.xins -/
/-! visits that come into a list, by name; what net shows it -/
def insL (p : vT) (P : List vT) (L : List vT) : List vT := L.flatMap (fun q => if q = p then q :: P else [q])
def insV (A : rn_L) (p : vT) (P : List vT) : rn_L := A.map (insL p P)
section XINS
variable {A Pre Post : rn_L} {p r r' : vT} {P X Y C L : List vT} {g : vT → Nat} {S : ow_NP}
theorem insL_no : ∀ {L : List vT}, p ∉ L → insL p P L = L
  | [], _ => rfl
  | q :: L, h => by
    have h1 : q ≠ p := fun e => h (by rw [e]; exact List.mem_cons_self)
    have ih := insL_no (L := L) (fun h9 => h (List.mem_cons_of_mem _ h9))
    unfold insL at ih ⊢
    rw [List.flatMap_cons, if_neg h1, ih]
    rfl
theorem insL_mid (h : (X ++ p :: Y).Nodup) : insL p P (X ++ p :: Y) = X ++ p :: (P ++ Y) := by
  obtain ⟨h1, h2⟩ := nd_mid h
  have e1 := insL_no (P := P) h1
  have e2 := insL_no (P := P) h2
  unfold insL at e1 e2 ⊢
  rw [List.flatMap_append, List.flatMap_cons, if_pos rfl, e1, e2]
  rfl
theorem dj_L (hn : (Pre ++ C :: Post).flatten.Nodup) (hL : L ∈ Pre ∨ L ∈ Post) {q s : vT} (hq : q ∈ L) (hs : s ∈ C) : q ≠ s := by
  rw [List.flatten_append, List.flatten_cons] at hn
  have h1 := List.nodup_append.mp hn
  have h2 := List.nodup_append.mp h1.2.1
  rcases hL with hL | hL
  · exact h1.2.2 q (List.mem_flatten.mpr ⟨L, hL, hq⟩) s (List.mem_append_left _ hs)
  · exact fun e => h2.2.2 s hs q (List.mem_flatten.mpr ⟨L, hL, hq⟩) e.symm
theorem insV_at (hn : A.flatten.Nodup) (hp : p ∈ A.flatten) : ∃ Pre X Y Post, A = Pre ++ (X ++ p :: Y) :: Post ∧ ∀ P, insV A p P = Pre ++ (X ++ p :: (P ++ Y)) :: Post := by
  obtain ⟨L, hL, hpL⟩ := List.mem_flatten.mp hp
  have nL := L_nd hn hL
  obtain ⟨Pre, Post, rfl⟩ := List.append_of_mem hL
  obtain ⟨X, Y, rfl⟩ := List.append_of_mem hpL
  refine ⟨Pre, X, Y, Post, rfl, fun P => ?_⟩
  unfold insV
  have rest : ∀ B : rn_L, (∀ K, K ∈ B → K ∈ Pre ∨ K ∈ Post) → B.map (insL p P) = B := fun B hB => (List.map_congr_left (fun K hK => insL_no (fun h9 => dj_L hn (hB K hK) h9 (by simp) rfl))).trans (List.map_id _)
  rw [List.map_append, List.map_cons, insL_mid nL, rest Pre (fun K h => Or.inl h), rest Post (fun K h => Or.inr h)]
theorem set_at {i : Nat} (h : A[i]? = some C) : ∃ Pre Post, A = Pre ++ C :: Post ∧ ∀ P, A.set i P = Pre ++ P :: Post := by
  obtain ⟨h1, h2⟩ := List.getElem?_eq_some_iff.mp h
  have e1 : ∀ P, A.set i P = A.take i ++ P :: A.drop (i + 1) := fun P => List.set_eq_take_append_cons_drop ..  |>.trans (if_pos h1)
  refine ⟨A.take i, A.drop (i + 1), ?_, e1⟩
  rw [← e1 C, ← h2]
  exact (List.set_getElem_self h1).symm
theorem pm_mid : (Pre ++ (X ++ p :: (P ++ Y)) :: Post).flatten.Perm ((Pre ++ (X ++ p :: Y) :: Post).flatten ++ P) := by
  rw [List.flatten_append, List.flatten_cons, List.flatten_append, List.flatten_cons, List.append_assoc Pre.flatten]
  refine List.Perm.append_left _ ?_
  have e1 : (X ++ p :: (P ++ Y)) ++ Post.flatten = (X ++ [p]) ++ (P ++ (Y ++ Post.flatten)) := by simp
  have e2 : ((X ++ p :: Y) ++ Post.flatten) ++ P = (X ++ [p]) ++ ((Y ++ Post.flatten) ++ P) := by simp
  rw [e1, e2]
  exact List.Perm.append_left _ List.perm_append_comm
theorem pm_set : (Pre ++ P :: Post).flatten.Perm ((Pre ++ [] :: Post).flatten ++ P) := by
  rw [List.flatten_append, List.flatten_cons, List.flatten_append, List.flatten_cons, List.append_assoc, List.nil_append]
  exact List.Perm.append_left _ List.perm_append_comm
theorem insV_pm (hn : A.flatten.Nodup) (hp : p ∈ A.flatten) : (insV A p P).flatten.Perm (A.flatten ++ P) := by
  obtain ⟨Pre, X, Y, Post, rfl, e⟩ := insV_at hn hp
  rw [e]
  exact pm_mid
theorem setE_pm {i : Nat} (h : A[i]? = some []) : (A.set i P).flatten.Perm (A.flatten ++ P) := by
  obtain ⟨Pre, Post, rfl, e⟩ := set_at h
  rw [e]
  exact pm_set
theorem insV_cirs (hn : A.flatten.Nodup) (hp : p ∈ A.flatten) : cirs (insV A p P) = cirs A := by
  obtain ⟨Pre, X, Y, Post, rfl, e⟩ := insV_at hn hp
  rw [e, cirs_app2, cirs_app2, cirs_ne (by simp), cirs_ne (by simp)]
theorem setE_cirs {i : Nat} (h : A[i]? = some []) (hP : P ≠ []) : cirs (A.set i P) + 1 = cirs A := by
  obtain ⟨Pre, Post, rfl, e⟩ := set_at h
  rw [e, cirs_app2, cirs_app2, cirs_ne hP, cirs_cons, if_pos rfl]
  omega
/-- the lists that a change does not meet -/
theorem shP_chg {S' : ow_NP} {C' : List vT} (hn : (Pre ++ C' :: Post).flatten.Nodup) (h : shP S g (Pre ++ C :: Post)) (hC : shL S' g C') (ho : ∀ L, (L ∈ Pre ∨ L ∈ Post) → ∀ q, q ∈ L → S'.1 (g q) = S.1 (g q) ∧ S'.2 (g q) = S.2 (g q)) : shP S' g (Pre ++ C' :: Post) := by
  intro L hL
  have hL9 : L = C' ∨ (L ∈ Pre ∨ L ∈ Post) := by
    rcases List.mem_append.mp hL with h9 | h9
    · exact Or.inr (Or.inl h9)
    · rcases List.mem_cons.mp h9 with h9 | h9
      · exact Or.inl h9
      · exact Or.inr (Or.inr h9)
  rcases hL9 with rfl | hL9
  · exact hC
  · refine shL_k (L_nd hn hL) (fun _ _ => rfl) (ho L hL9) (h L ?_)
    rcases hL9 with h9 | h9
    · exact List.mem_append_left _ h9
    · exact List.mem_append_right _ (List.mem_cons_of_mem _ h9)
theorem shP_put1 (hn : (Pre ++ (X ++ p :: r :: Y) :: Post).flatten.Nodup) (hg : gin g (Pre ++ (X ++ p :: r :: Y) :: Post).flatten) (h : shP S g (Pre ++ (X ++ p :: Y) :: Post)) : shP (np_putBehind S (g p) (g r)) g (Pre ++ (X ++ p :: r :: Y) :: Post) := by
  have hmem : (X ++ p :: r :: Y) ∈ Pre ++ (X ++ p :: r :: Y) :: Post := by simp
  have nC := L_nd hn hmem
  have hC0 := h (X ++ p :: Y) (by simp)
  have nC0 : (X ++ p :: Y).Nodup := by
    refine List.Sublist.nodup ?_ nC
    exact List.Sublist.append (List.Sublist.refl _) (List.Sublist.cons₂ _ (List.sublist_cons_self _ _))
  have hs := sc_in (p := p) (L := X ++ p :: Y) (by simp) nC0
  have sub : ∀ a, a ∈ X ++ p :: Y → a ∈ X ++ p :: r :: Y := fun a ha => by
    simp at ha ⊢
    grind
  refine shP_chg hn h (shL_put nC (gin_L hg hmem) hC0) (fun L hL q hq => ?_)
  have hqA : q ∈ (Pre ++ (X ++ p :: r :: Y) :: Post).flatten := by
    refine List.mem_flatten.mpr ⟨L, ?_, hq⟩
    rcases hL with h9 | h9
    · exact List.mem_append_left _ h9
    · exact List.mem_append_right _ (List.mem_cons_of_mem _ h9)
  have far : ∀ s, s ∈ X ++ p :: r :: Y → g q ≠ g s := fun s hs9 e => dj_L hn hL hq hs9 (hg q s hqA (List.mem_flatten.mpr ⟨_, hmem, hs9⟩) e)
  have hS : S.1 (g p) = g (sc (X ++ p :: Y) p) := (hC0 p (by simp)).1
  unfold np_putBehind
  rw [nl_1, nl_2, nl_1, nl_2, hS, if_neg (far r (by simp)), if_neg (far p (by simp)), if_neg (far _ (sub _ hs)), if_neg (far r (by simp))]
  exact ⟨rfl, rfl⟩
theorem shP_nil (hn : (Pre ++ [r] :: Post).flatten.Nodup) (hg : gin g (Pre ++ [r] :: Post).flatten) (h : shP S g (Pre ++ [] :: Post)) : shP (nl S (g r) (g r)) g (Pre ++ [r] :: Post) := by
  refine shP_chg hn h ?_ (fun L hL q hq => ?_)
  · intro q hq
    rw [List.mem_singleton.mp hq, sc_one, nl_1, nl_2, if_pos rfl, if_pos rfl]
    exact ⟨rfl, rfl⟩
  · have hqA : q ∈ (Pre ++ [r] :: Post).flatten := by
      refine List.mem_flatten.mpr ⟨L, ?_, hq⟩
      rcases hL with h9 | h9
      · exact List.mem_append_left _ h9
      · exact List.mem_append_right _ (List.mem_cons_of_mem _ h9)
    have far : g q ≠ g r := fun e => dj_L hn hL hq (show r ∈ [r] by simp) (hg q r hqA (List.mem_flatten.mpr ⟨[r], by simp, by simp⟩) e)
    rw [nl_1, nl_2, if_neg far, if_neg far]
    exact ⟨rfl, rfl⟩
theorem gin_sub {F G : List vT} (h : gin g G) (hs : ∀ a, a ∈ F → a ∈ G) : gin g F := fun p q hp hq => h p q (hs p hp) (hs q hq)
/-- two visits come behind one -/
theorem shP_V (hn : A.flatten.Nodup) (hp : p ∈ A.flatten) (hn1 : (insV A p [r, r']).flatten.Nodup) (hg : gin g (insV A p [r, r']).flatten) (h : shP S g A) : shP (np_putBehind (np_putBehind S (g p) (g r)) (g r) (g r')) g (insV A p [r, r']) := by
  obtain ⟨Pre, X, Y, Post, rfl, e⟩ := insV_at hn hp
  rw [e] at hn1 hg ⊢
  have sl : (Pre ++ (X ++ p :: r :: Y) :: Post).flatten.Sublist (Pre ++ (X ++ p :: ([r, r'] ++ Y)) :: Post).flatten := by
    rw [List.flatten_append, List.flatten_cons, List.flatten_append, List.flatten_cons]
    refine List.Sublist.append (List.Sublist.refl _) (List.Sublist.append (List.Sublist.append (List.Sublist.refl _) ?_) (List.Sublist.refl _))
    exact List.Sublist.cons₂ _ (List.Sublist.cons₂ _ (List.sublist_cons_self _ _))
  have h1 := shP_put1 (List.Sublist.nodup sl hn1) (gin_sub hg (fun a ha => sl.subset ha)) h
  have e1 : X ++ p :: r :: Y = (X ++ [p]) ++ r :: Y := by simp
  have e2 : X ++ p :: ([r, r'] ++ Y) = (X ++ [p]) ++ r :: r' :: Y := by simp
  rw [e1] at h1
  rw [e2] at hn1 hg ⊢
  exact shP_put1 hn1 hg h1
/-- two visits come into a circle -/
theorem shP_E {i : Nat} (hi : A[i]? = some []) (hn1 : (A.set i [r, r']).flatten.Nodup) (hg : gin g (A.set i [r, r']).flatten) (h : shP S g A) : shP (np_putBehind (nl S (g r) (g r)) (g r) (g r')) g (A.set i [r, r']) := by
  obtain ⟨Pre, Post, rfl, e⟩ := set_at hi
  rw [e] at hn1 hg ⊢
  have sl : (Pre ++ [r] :: Post).flatten.Sublist (Pre ++ [r, r'] :: Post).flatten := by
    rw [List.flatten_append, List.flatten_cons, List.flatten_append, List.flatten_cons]
    refine List.Sublist.append (List.Sublist.refl _) (List.Sublist.append ?_ (List.Sublist.refl _))
    exact List.Sublist.cons₂ _ (List.sublist_cons_self _ _)
  have h1 := shP_nil (List.Sublist.nodup sl hn1) (gin_sub hg (fun a ha => sl.subset ha)) h
  exact shP_put1 (X := []) (Y := []) hn1 hg h1
/-- a net of a list -/
theorem iso_mk {sg : Nat → Bool} {f : Nat → Nat} {T : ow_NT} {c : Nat} (ho : okF A.flatten c) (hc : c ≤ 12) (h1 : T.1 = c) (hf : ∀ x, x < c → f x < c) (hi : ∀ x y, x < c → y < c → f x = f y → x = y) (hS : shP T.2.2.1 (gl f) A) (hG : ∀ x, x < c → (T.2.2.2 (f x) < 0 ↔ sg x = true)) (hC : cirs A = T.2.1) : isoV A sg f T := ⟨⟨okF_wk (by omega) ho, by rw [okF_len ho, h1], by omega, fun p hp => by rw [h1]; exact hf _ ((ho.2 p).mp hp).1, fun p q hp hq e => hi _ _ ((ho.2 p).mp hp).1 ((ho.2 q).mp hq).1 e, fun L hL p hp => (hS L hL p hp).1, fun p hp => hG _ ((ho.2 p).mp hp).1, hC⟩, hS⟩
end XINS
/-! building by names -/
section XINB
variable {A : rn_L} {f : Nat → List vT} {g h : Nat} {P P0 P1 : List vT}
theorem bldC_nm {F : vT → List vT} {i : Nat} (hi : i < A.length) (hF : ∀ v, v < A.flatten.length → f v = F (vAt A v)) : bldC A f i = if A.getD i [] = [] then f (A.flatten.length + i) else (A.getD i []).flatMap (fun q => q :: F q) := by
  have e0 := cmp_seg (A := A) hi
  have hl := gD_len (A := A) hi
  have h1 := rn_b_mono A i
  have h2 := rnb_mono2 (A := A) (a := i + 1) (b := A.length) (by omega)
  rw [rn_b_len] at h2
  have e1 : List.range' (rn_b A i) (rn_b A (i + 1) - rn_b A i) = seg (rn_b A i) (rn_b A (i + 1)) := by
    unfold seg
    exact List.range'_eq_map_range ..
  have e2 : (List.range' (rn_b A i) (rn_b A (i + 1) - rn_b A i)).flatMap (fun v => vAt A v :: f v) = (A.getD i []).flatMap (fun q => q :: F q) := by
    rw [← e0, ← e1, List.flatMap_map]
    rw [List.flatMap_def, List.flatMap_def]
    refine congrArg List.flatten (List.map_congr_left (fun v hv => ?_))
    rw [List.mem_range'_1] at hv
    rw [hF v (by omega)]
  unfold bldC
  rw [e2]
  by_cases e : A.getD i [] = []
  · rw [if_pos e, e]
    have : rn_b A i = rn_b A (i + 1) := by
      rw [e] at hl
      have hl : 0 = _ := hl
      omega
    rw [if_pos this]
    exact List.append_nil _
  · rw [if_neg e]
    have : rn_b A i ≠ rn_b A (i + 1) := fun h9 => e (List.eq_nil_of_length_eq_zero (by omega))
    rw [if_neg this]
    rfl
theorem bldA_at {i : Nat} : (bldA A f)[i]? = if i < A.length then some (bldC A f i) else none := by
  unfold bldA
  rw [List.getElem?_map]
  by_cases h : i < A.length
  · rw [if_pos h, List.getElem?_range h]
    rfl
  · rw [if_neg h, List.getElem?_eq_none (by rw [List.length_range]; omega)]
    rfl
/-- a list that is built so -/
theorem bldA_is {B : rn_L} {F : vT → List vT} (hF : ∀ v, v < A.flatten.length → f v = F (vAt A v)) (hB : B.length = A.length) (hE : ∀ i : Nat, A[i]? = some [] → B[i]? = some (f (A.flatten.length + i))) (hN : ∀ (i : Nat) (L : List vT), A[i]? = some L → L ≠ [] → B[i]? = some (L.flatMap (fun q => q :: F q))) : bldA A f = B := by
  refine List.ext_getElem? (fun i => ?_)
  rw [bldA_at]
  by_cases hi : i < A.length
  · rw [if_pos hi, bldC_nm hi hF]
    have e := List.getElem?_eq_getElem hi
    rw [List.getD_eq_getElem?_getD, e]
    by_cases h0 : A[i] = []
    · rw [h0] at e
      rw [hE i e, h0]
      rfl
    · rw [hN i _ e h0]
      show some (if A[i] = [] then _ else _) = _
      rw [if_neg h0]
      rfl
  · rw [if_neg hi, List.getElem?_eq_none (by omega)]
end XINB
end
section
/-! 99zzzzzzzzzzzh.xp1 -/
/-! the moves of both sides: kind 1; places of kind 3 -/
section XP1
variable {A : rn_L} {g h i j : Nat} {P P0 P1 L : List vT} {p q : vT}
theorem fm_pt {α β : Type} {f f' : α → List β} {L : List α} (h : ∀ r, r ∈ L → f r = f' r) : L.flatMap f = L.flatMap f' := by
  rw [List.flatMap_def, List.flatMap_def]
  exact congrArg List.flatten (List.map_congr_left h)
theorem isG_c (h : isG A g) : g < A.flatten.length ∨ ∃ i, g = A.flatten.length + i ∧ A[i]? = some [] := by
  rcases h with h | ⟨h1, h2, h3⟩
  · exact Or.inl h
  · refine Or.inr ⟨g - A.flatten.length, by omega, ?_⟩
    have := gD_len (A := A) h2
    rw [h3, Nat.sub_self, List.getD_eq_getElem?_getD, List.getElem?_eq_getElem h2] at this
    rw [List.getElem?_eq_getElem h2]
    exact congrArg some (List.eq_nil_of_length_eq_zero this)
theorem isG_E (h : A[i]? = some []) : isG A (A.flatten.length + i) := by
  obtain ⟨h1, h2⟩ := List.getElem?_eq_some_iff.mp h
  have := gD_len (A := A) h1
  rw [List.getD_eq_getElem?_getD, h] at this
  have this : 0 = _ := this
  have h3 := rn_b_mono A i
  refine Or.inr ⟨by omega, by omega, ?_⟩
  rw [show A.flatten.length + i - A.flatten.length = i by omega]
  omega
theorem vAt_ij (hn : A.flatten.Nodup) {x y : Nat} (hx : x < A.flatten.length) (hy : y < A.flatten.length) : vAt A x = vAt A y ↔ x = y := ⟨fun e => nodup_at hn (vAt_of hx) (by rw [e]; exact vAt_of hy), fun e => by rw [e]⟩
theorem insL_in2 (hpq : p ≠ q) (hq : q ∉ P0) : insL q P1 (insL p P0 L) = L.flatMap (fun r => r :: ((if r = p then P0 else []) ++ (if r = q then P1 else []))) := by
  unfold insL
  rw [List.flatMap_assoc]
  refine fm_pt (fun r hr => ?_)
  by_cases e : r = p
  · rw [if_pos e, if_pos e, if_neg (fun e9 => hpq (e.symm.trans e9)), List.append_nil]
    have : insL q P1 (r :: P0) = r :: P0 := insL_no (fun h9 => by
      rcases List.mem_cons.mp h9 with h9 | h9
      · exact hpq (e.symm.trans h9.symm)
      · exact hq h9)
    exact this
  · rw [if_neg e, if_neg e, List.nil_append]
    by_cases e2 : r = q
    · rw [if_pos e2]
      show List.flatMap _ [r] = _
      rw [List.flatMap_cons, if_pos e2]
      exact List.append_nil _
    · rw [if_neg e2]
      show List.flatMap _ [r] = _
      rw [List.flatMap_cons, if_neg e2]
      rfl
theorem insL_1 : insL p P L = L.flatMap (fun r => r :: (if r = p then P else [])) := by
  unfold insL
  refine fm_pt (fun r hr => ?_)
  by_cases e : r = p
  · rw [if_pos e, if_pos e]
  · rw [if_neg e, if_neg e]
theorem insV_g : (insV A p P)[i]? = A[i]?.map (insL p P) := List.getElem?_map
theorem insV_l : (insV A p P).length = A.length := List.length_map ..
theorem b_VV (hn : A.flatten.Nodup) (hg : g < A.flatten.length) (hh : h < A.flatten.length) (hgh : g ≠ h) (hq : vAt A h ∉ P0) : bldA A (insG g h P0 P1) = insV (insV A (vAt A g) P0) (vAt A h) P1 := by
  refine bldA_is (F := fun r => (if r = vAt A g then P0 else []) ++ (if r = vAt A h then P1 else [])) (fun v hv => ?_) (by rw [insV_l, insV_l]) (fun i hi => ?_) (fun i L hi hL => ?_)
  · unfold insG
    by_cases e1 : v = g
    · rw [if_pos e1, if_neg (show ¬ v = h by omega), if_pos (show vAt A v = vAt A g by rw [e1]), if_neg (show ¬ vAt A v = vAt A h from fun e => hgh (e1.symm.trans ((vAt_ij hn hv hh).mp e)))]
    · rw [if_neg e1, if_neg (show ¬ vAt A v = vAt A g from fun e => e1 ((vAt_ij hn hv hg).mp e))]
      by_cases e2 : v = h
      · rw [if_pos e2, if_pos (show vAt A v = vAt A h by rw [e2])]
      · rw [if_neg e2, if_neg (show ¬ vAt A v = vAt A h from fun e => e2 ((vAt_ij hn hv hh).mp e))]
  · rw [insV_g, insV_g, hi]
    unfold insG
    rw [if_neg (by omega), if_neg (by omega)]
    rfl
  · rw [insV_g, insV_g, hi]
    show some (insL _ _ (insL _ _ L)) = _
    rw [insL_in2 (fun e => hgh ((vAt_ij hn hg hh).mp e)) hq]
theorem b_V2 (hn : A.flatten.Nodup) (hg : g < A.flatten.length) : bldA A (insG g g P0 P1) = insV A (vAt A g) (P0 ++ P1) := by
  refine bldA_is (F := fun r => if r = vAt A g then P0 ++ P1 else []) (fun v hv => ?_) insV_l (fun i hi => ?_) (fun i L hi hL => ?_)
  · unfold insG
    by_cases e1 : v = g
    · rw [if_pos e1, if_pos e1, if_pos (by rw [e1])]
    · rw [if_neg e1, if_neg e1, if_neg (fun e => e1 ((vAt_ij hn hv hg).mp e))]
      rfl
  · rw [insV_g, hi]
    unfold insG
    rw [if_neg (by omega), if_neg (by omega)]
    rfl
  · rw [insV_g, hi, ← insL_1]
    rfl
theorem set_g {B : rn_L} {C : List vT} (hi : i < B.length) : (B.set i C)[j]? = if i = j then some C else B[j]? := by
  rw [List.getElem?_set]
  by_cases e : i = j
  · rw [if_pos e, if_pos e, if_pos hi]
  · rw [if_neg e, if_neg e]
theorem i_lt (h : A[i]? = some L) : i < A.length := (List.getElem?_eq_some_iff.mp h).1
theorem b_VE (hn : A.flatten.Nodup) (hg : g < A.flatten.length) (hi : A[i]? = some []) : bldA A (insG g (A.flatten.length + i) P0 P1) = (insV A (vAt A g) P0).set i P1 := by
  have hil := i_lt hi
  refine bldA_is (F := fun r => if r = vAt A g then P0 else []) (fun v hv => ?_) (by rw [List.length_set, insV_l]) (fun j hj => ?_) (fun j L hj hL => ?_)
  · unfold insG
    rw [if_neg (show ¬ v = A.flatten.length + i by omega), List.append_nil]
    by_cases e1 : v = g
    · rw [if_pos e1, if_pos (by rw [e1])]
    · rw [if_neg e1, if_neg (fun e => e1 ((vAt_ij hn hv hg).mp e))]
  · rw [set_g (by rw [insV_l]; exact hil), insV_g, hj]
    unfold insG
    rw [if_neg (show ¬ A.flatten.length + j = g by omega), List.nil_append]
    by_cases e : i = j
    · rw [if_pos e, if_pos (by omega)]
    · rw [if_neg e, if_neg (by omega)]
      rfl
  · rw [set_g (by rw [insV_l]; exact hil), insV_g, hj, if_neg (fun e => hL (by rw [e] at hi; exact Option.some.inj (hj.symm.trans hi))), ← insL_1]
    rfl
theorem b_EV (hn : A.flatten.Nodup) (hh : h < A.flatten.length) (hi : A[i]? = some []) (hq : vAt A h ∉ P0) : bldA A (insG (A.flatten.length + i) h P0 P1) = insV (A.set i P0) (vAt A h) P1 := by
  have hil := i_lt hi
  refine bldA_is (F := fun r => if r = vAt A h then P1 else []) (fun v hv => ?_) (by rw [insV_l, List.length_set]) (fun j hj => ?_) (fun j L hj hL => ?_)
  · unfold insG
    rw [if_neg (show ¬ v = A.flatten.length + i by omega), List.nil_append]
    by_cases e1 : v = h
    · rw [if_pos e1, if_pos (by rw [e1])]
    · rw [if_neg e1, if_neg (fun e => e1 ((vAt_ij hn hv hh).mp e))]
  · rw [insV_g, set_g hil, hj]
    unfold insG
    rw [if_neg (show ¬ A.flatten.length + j = h by omega), List.append_nil]
    by_cases e : i = j
    · rw [if_pos e, if_pos (by omega)]
      show some (insL _ _ P0) = _
      rw [insL_no hq]
    · rw [if_neg e, if_neg (by omega)]
      rfl
  · rw [insV_g, set_g hil, hj, if_neg (fun e => hL (by rw [e] at hi; exact Option.some.inj (hj.symm.trans hi))), ← insL_1]
    rfl
theorem b_EE (hi : A[i]? = some []) (hj : A[j]? = some []) (hij : i ≠ j) : bldA A (insG (A.flatten.length + i) (A.flatten.length + j) P0 P1) = (A.set i P0).set j P1 := by
  have hil := i_lt hi
  have hjl := i_lt hj
  refine bldA_is (F := fun r => []) (fun v hv => ?_) (by rw [List.length_set, List.length_set]) (fun k hk => ?_) (fun k L hk hL => ?_)
  · unfold insG
    rw [if_neg (by omega), if_neg (by omega)]
    rfl
  · rw [set_g (by rw [List.length_set]; exact hjl), set_g hil, hk]
    unfold insG
    by_cases e : j = k
    · rw [if_pos e, if_neg (by omega), if_pos (by omega)]
      rfl
    · rw [if_neg e, if_neg (show ¬ A.flatten.length + k = A.flatten.length + j by omega)]
      by_cases e2 : i = k
      · rw [if_pos e2, if_pos (by omega), List.append_nil]
      · rw [if_neg e2, if_neg (by omega)]
        rfl
  · rw [set_g (by rw [List.length_set]; exact hjl), set_g hil, hk, if_neg (fun e => hL (by rw [e] at hj; exact Option.some.inj (hk.symm.trans hj))), if_neg (fun e => hL (by rw [e] at hi; exact Option.some.inj (hk.symm.trans hi)))]
    congr 1
    rw [List.flatMap_singleton']
theorem b_E2 (hi : A[i]? = some []) : bldA A (insG (A.flatten.length + i) (A.flatten.length + i) P0 P1) = A.set i (P0 ++ P1) := by
  have hil := i_lt hi
  refine bldA_is (F := fun r => []) (fun v hv => ?_) (by rw [List.length_set]) (fun k hk => ?_) (fun k L hk hL => ?_)
  · unfold insG
    rw [if_neg (by omega), if_neg (by omega)]
    rfl
  · rw [set_g hil, hk]
    unfold insG
    by_cases e : i = k
    · rw [if_pos e, if_pos (by omega), if_pos (by omega)]
    · rw [if_neg e, if_neg (by omega), if_neg (by omega)]
      rfl
  · rw [set_g hil, hk, if_neg (fun e => hL (by rw [e] at hi; exact Option.some.inj (hk.symm.trans hi)))]
    congr 1
    rw [List.flatMap_singleton']
theorem insG_1 : insG g 1000 P [] = insG g g P [] := by
  funext gp
  unfold insG
  rw [ite_self, ite_self]
/-- two visits come at a place -/
def inQ (A B : rn_L) (af : Option Nat) (γ : vT → Nat) (r r' : vT) : Prop := (∃ p, p ∈ A.flatten ∧ B = insV A p [r, r'] ∧ af = some (γ p)) ∨ ∃ i, A[i]? = some [] ∧ B = A.set i [r, r'] ∧ af = none
theorem inQ_pm {B : rn_L} {af : Option Nat} {γ : vT → Nat} {r r' : vT} (hn : A.flatten.Nodup) (h : inQ A B af γ r r') : B.flatten.Perm (A.flatten ++ [r, r']) := by
  rcases h with ⟨p, h1, rfl, -⟩ | ⟨i, h1, rfl, -⟩
  · exact insV_pm hn h1
  · exact setE_pm h1
theorem inQ_sh {B : rn_L} {af : Option Nat} {γ : vT → Nat} {r r' : vT} {T : ow_NT} (hn : A.flatten.Nodup) (h : inQ A B af γ r r') (hnB : B.flatten.Nodup) (hg : gin γ B.flatten) (hS : shP T.2.2.1 γ A) (hC : cirs A = T.2.1) : shP (nt_pair T af (γ r) (γ r')).2.2.1 γ B ∧ cirs B = (nt_pair T af (γ r) (γ r')).2.1 := by
  rcases h with ⟨p, h1, rfl, rfl⟩ | ⟨i, h1, rfl, rfl⟩
  · exact ⟨shP_V hn h1 hnB hg hS, (insV_cirs hn h1).trans hC⟩
  · refine ⟨shP_E h1 hnB hg hS, ?_⟩
    have := setE_cirs (P := [r, r']) h1 (by simp)
    show cirs _ = T.2.1 - 1
    omega
theorem shP_gcg {S : ow_NP} {γ γ' : vT → Nat} (hn : A.flatten.Nodup) (he : ∀ p, p ∈ A.flatten → γ' p = γ p) (h : shP S γ A) : shP S γ' A := fun L hL => shL_k (L_nd hn hL) (fun p hp => he p (List.mem_flatten.mpr ⟨L, hL, hp⟩)) (fun _ _ => ⟨rfl, rfl⟩) (h L hL)
theorem cir_ex (h : 0 < cirs A) : ∃ i : Nat, A[i]? = some [] := by
  unfold cirs at h
  obtain ⟨L, hL, e⟩ := List.countP_pos_iff.mp h
  obtain ⟨i, hi, e2⟩ := List.getElem_of_mem hL
  refine ⟨i, ?_⟩
  rw [List.getElem?_eq_getElem hi, e2, List.isEmpty_iff.mp e]
theorem cir_ps (h : A[i]? = some []) : 0 < cirs A := by
  unfold cirs
  exact List.countP_pos_iff.mpr ⟨[], List.mem_of_getElem? h, rfl⟩
end XP1
section XP1b
variable {A : rn_L} {sg : Nat → Bool} {R Q : ow_NT}
theorem isoV_ok (h : isoV A sg idN R) : okF A.flatten R.1 := by
  refine ⟨h.1.1.1, fun p => ⟨fun hp => ⟨h.1.2.2.2.1 p hp, (h.1.1.2 p hp).2.1⟩, fun hp => ?_⟩⟩
  obtain ⟨v, hv, e1, e2, -⟩ := vis_of h hp.1 hp.2
  have := vAt_mem hv
  rw [show vAt A v = p from Prod.ext e1 e2] at this
  exact this
theorem su_at {f : Nat → Int32} {c x : Nat} {s : Int32} : su f c s x = if x = c then s else f x := rfl
/-- kind 1: a place on both sides -/
theorem mb_1 (h : isoV A sg idN R) (hA : A.length ≤ 6) : mBi 1 A sg R := by
  have ho := isoV_ok h
  have hn := h.1.1.1
  have hV := h.1.2.1
  have hc0 := h.1.2.2.1
  have hC : cirs A = R.2.1 := h.1.2.2.2.2.2.2.2
  -- what stands on both sides
  have main : ∀ {g k gap : Nat} {Q : ow_NT}, R.1 + 1 ≤ 12 → isG A g → k < 4 → (g < A.flatten.length ∧ gap = lbv A idN g ∨ A.flatten.length ≤ g ∧ gap = 2 * R.1) → mv_b1 R gap = true ∧ isoV (bldA A (insG g 1000 [(R.1, k % 2), (R.1, 1 - k % 2)] [])) (fun i => if i = R.1 then decide (2 ≤ k) else sg i) idN (mv_t1 Q R gap k) := by
    intro g k gap Q hc hg hk hgap
    have hok := o1_ok ho hA (by omega) hg hk
    have hin : inQ A (bldA A (insG g 1000 [(R.1, k % 2), (R.1, 1 - k % 2)] [])) (mv_af R gap) (gl idN) (R.1, k % 2) (R.1, 1 - k % 2) := by
      rw [insG_1]
      rcases hgap with ⟨g1, g2⟩ | ⟨g1, g2⟩
      · refine Or.inl ⟨vAt A g, vAt_mem g1, ?_, ?_⟩
        · rw [b_V2 hn g1, List.append_nil]
        · have := lbv_lt (isoS_iff.mp h.1) g1
          have this : lbv A idN g < 2 * R.1 := this
          unfold mv_af
          rw [if_neg (by omega), g2]
          rfl
      · rcases isG_c hg with h9 | ⟨i, e, hi⟩
        · omega
        · refine Or.inr ⟨i, hi, ?_, ?_⟩
          · rw [e, b_E2 hi, List.append_nil]
          · unfold mv_af
            rw [if_pos g2]
    have hb : mv_b1 R gap = true := by
      unfold mv_b1
      rcases hgap with ⟨g1, g2⟩ | ⟨g1, g2⟩
      · have := lbv_lt (isoS_iff.mp h.1) g1
        have this : lbv A idN g < 2 * R.1 := this
        rw [decide_eq_false (show ¬ gap = 2 * R.1 by omega)]
        rfl
      · rcases isG_c hg with h9 | ⟨i, e, hi⟩
        · omega
        · have := cir_ps hi
          rw [decide_eq_false (show ¬ R.2.1 = 0 by omega), Bool.and_false]
          rfl
    refine ⟨hb, ?_⟩
    unfold mv_t1
    rw [if_pos hb]
    have gg : gin (gl idN) (bldA A (insG g 1000 [(R.1, k % 2), (R.1, 1 - k % 2)] [])).flatten := by
      intro p q hp hq e
      have h1 := (hok.2 p).mp hp
      have h2 := (hok.2 q).mp hq
      have e : 2 * p.1 + p.2 = 2 * q.1 + q.2 := e
      exact Prod.ext (by omega) (by omega)
    have hcp := isoV_cpy (Q := Q) h
    obtain ⟨s1, s2⟩ := inQ_sh (T := nt_add (nt_copy Q R) (mv_sg k)) hn hin hok.1 gg hcp.2 hC
    have e1 : gl idN (R.1, k % 2) = 2 * R.1 + k % 2 := rfl
    have e2 : gl idN (R.1, 1 - k % 2) = mt (2 * R.1 + k % 2) := by
      show 2 * R.1 + (1 - k % 2) = _
      unfold mt
      rcases (show k % 2 = 0 ∨ k % 2 = 1 by omega) with e | e <;> rw [e]
      · rw [if_pos (by omega)]
      · rw [if_neg (by omega)]
        omega
    rw [e1, e2] at s1 s2
    have hT1 : (nt_pair (nt_add (nt_copy Q R) (mv_sg k)) (mv_af R gap) (2 * R.1 + k % 2) (mt (2 * R.1 + k % 2))).1 = R.1 + 1 := by
      cases mv_af R gap <;> rfl
    have hTG : (nt_pair (nt_add (nt_copy Q R) (mv_sg k)) (mv_af R gap) (2 * R.1 + k % 2) (mt (2 * R.1 + k % 2))).2.2.2 = su (nt_copy Q R).2.2.2 R.1 (mv_sg k) := by
      cases mv_af R gap <;> rfl
    refine iso_mk hok hc hT1 (fun x hx => hx) (fun x y _ _ e => e) s1 (fun x hx => ?_) s2
    rw [hTG, su_at]
    show (if x = R.1 then _ else _) < 0 ↔ (if x = R.1 then _ else _) = true
    by_cases e : x = R.1
    · rw [if_pos e, if_pos e, decide_eq_true_iff]
      unfold mv_sg
      rcases (show k = 0 ∨ k = 1 ∨ k = 2 ∨ k = 3 by omega) with rfl | rfl | rfl | rfl <;> decide
    · rw [if_neg e, if_neg e]
      have := hcp.1.2.2.2.2.2.2.1 (x, 0) ((ho.2 _).mpr ⟨show x < R.1 by omega, show 0 < 2 by omega⟩)
      exact this
  constructor
  · rintro j hj ⟨F, P, Q, hmk, hQ, hB⟩
    have hB : mv_b1 R (j / 4) = true := hB
    have hj : j < if R.1 + 1 ≤ 12 then (2 * R.1 + 1) * 4 else 0 := hj
    by_cases hc : R.1 + 1 ≤ 12
    · rw [if_pos hc] at hj
      have hgap : ∃ g, isG A g ∧ (g < A.flatten.length ∧ j / 4 = lbv A idN g ∨ A.flatten.length ≤ g ∧ j / 4 = 2 * R.1) := by
        by_cases e : j / 4 < 2 * R.1
        · obtain ⟨v, hv, e2⟩ := lbv_sur (isoS_iff.mp h.1) e
          exact ⟨v, Or.inl hv, Or.inl ⟨hv, e2.symm⟩⟩
        · have e : j / 4 = 2 * R.1 := by omega
          unfold mv_b1 at hB
          rw [decide_eq_true e] at hB
          have h0 : R.2.1 ≠ 0 := fun e9 => by
            rw [e9] at hB
            exact absurd hB (by decide)
          obtain ⟨i, hi⟩ := cir_ex (A := A) (by omega)
          exact ⟨A.flatten.length + i, isG_E hi, Or.inr ⟨by omega, e⟩⟩
      obtain ⟨g, hg, hgap⟩ := hgap
      exact ⟨_, _, ⟨hc, g, j % 4, hg, by omega, rfl, rfl⟩, fun F' P' Q' _ _ => ⟨hB, idN, (main (Q := Q') hc hg (k := j % 4) (by omega) hgap).2⟩⟩
    · rw [if_neg hc] at hj
      omega
  · rintro A' sg' ⟨hc, g, k, hg, hk, rfl, rfl⟩
    have hcn : mv_cnt R.1 1 = (2 * R.1 + 1) * 4 := if_pos hc
    rw [hcn]
    have fin : ∀ gap, gap ≤ 2 * R.1 → (g < A.flatten.length ∧ gap = lbv A idN g ∨ A.flatten.length ≤ g ∧ gap = 2 * R.1) → ∃ j, j < (2 * R.1 + 1) * 4 ∧ ∀ (F P : Nat → Int32) (Q : ow_NT), mv_mk 1 R F P → ow_b24 Q.2.2.1 → mv_B 1 j Q R F P = true ∧ ∃ f, isoV (bldA A (insG g 1000 [(R.1, k % 2), (R.1, 1 - k % 2)] [])) (fun i => if i = R.1 then decide (2 ≤ k) else sg i) f (mv_T 1 j Q R F P) := by
      intro gap h1 h2
      refine ⟨gap * 4 + k, by omega, fun F P Q hmk hQ => ?_⟩
      show mv_b1 R ((gap * 4 + k) / 4) = true ∧ ∃ f, isoV _ _ f (mv_t1 Q R ((gap * 4 + k) / 4) ((gap * 4 + k) % 4))
      rw [show (gap * 4 + k) / 4 = gap by omega, show (gap * 4 + k) % 4 = k by omega]
      have := main (Q := Q) hc hg hk h2
      exact ⟨this.1, idN, this.2⟩
    rcases isG_c hg with h9 | ⟨i, e, hi⟩
    · have := lbv_lt (isoS_iff.mp h.1) h9
      have this : lbv A idN g < 2 * R.1 := this
      exact fin _ (by omega) (Or.inl ⟨h9, rfl⟩)
    · exact fin _ (Nat.le_refl _) (Or.inr ⟨by omega, rfl⟩)
end XP1b
end
