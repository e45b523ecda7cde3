-- CHAIN: a pair of crossings goes out of a list
/-- one gap left out of the labels -/
def rdp9 (o : Nat) (rel : (Nat → Bool) → Nat → Nat → Prop) (s : Nat → Bool) (g h : Nat) : Prop := g = h ∨ (g ≠ o ∧ h ≠ o ∧ rel s g h)
section XCHW
variable {n V o : Nat} {G : Nat → Prop} {P1 P2 P3 : Nat → Nat} {rel : (Nat → Bool) → Nat → Nat → Prop} {s : Nat → Bool}
theorem rdp_y {g h : Nat} (hE : eqv9 (rel s)) (hg : g ≠ o) (hh : h ≠ o) : rdp9 o rel s g h ↔ rel s g h := ⟨fun h9 => h9.elim (fun e => e ▸ hE.1 g) (fun e => e.2.2), fun h9 => Or.inr ⟨hg, hh, h9⟩⟩
theorem rdp_e (hE : eqv9 (rel s)) : eqv9 (rdp9 o rel s) := by
  refine ⟨fun g => Or.inl rfl, fun g h h9 => ?_, fun g h k h9 h8 => ?_⟩
  · rcases h9 with e | ⟨e1, e2, e3⟩
    · exact Or.inl e.symm
    · exact Or.inr ⟨e2, e1, hE.2.1 _ _ e3⟩
  · rcases h9 with e | ⟨e1, e2, e3⟩
    · rw [e]
      exact h8
    · rcases h8 with e | ⟨f1, f2, f3⟩
      · rw [← e]
        exact Or.inr ⟨e1, e2, e3⟩
      · exact Or.inr ⟨e1, f2, hE.2.2 _ _ _ e3 f3⟩
theorem adr_dp {a b g h : Nat} (hE : eqv9 (rel s)) (ha : a ≠ o) (hb : b ≠ o) : adr (rdp9 o rel s) a b g h ↔ (g = h ∨ (g ≠ o ∧ h ≠ o ∧ adr (rel s) a b g h)) := by
  have k : ∀ u c, c ≠ o → rdp9 o rel s u c → u ≠ o ∧ rel s u c := fun u c hc h9 => by
    rcases h9 with e | ⟨e1, e2, e3⟩
    · rw [e]
      exact ⟨hc, hE.1 c⟩
    · exact ⟨e1, e3⟩
  constructor
  · rintro (h9 | ⟨h8, h9⟩ | ⟨h8, h9⟩)
    · rcases h9 with e | ⟨e1, e2, e3⟩
      · exact Or.inl e
      · exact Or.inr ⟨e1, e2, Or.inl e3⟩
    · exact Or.inr ⟨(k _ _ ha h8).1, (k _ _ hb h9).1, Or.inr (Or.inl ⟨(k _ _ ha h8).2, (k _ _ hb h9).2⟩)⟩
    · exact Or.inr ⟨(k _ _ hb h8).1, (k _ _ ha h9).1, Or.inr (Or.inr ⟨(k _ _ hb h8).2, (k _ _ ha h9).2⟩)⟩
  · rintro (e | ⟨e1, e2, h9 | ⟨h8, h9⟩ | ⟨h8, h9⟩⟩)
    · exact Or.inl (Or.inl e)
    · exact Or.inl (Or.inr ⟨e1, e2, h9⟩)
    · exact Or.inr (Or.inl ⟨Or.inr ⟨e1, ha, h8⟩, Or.inr ⟨e2, hb, h9⟩⟩)
    · exact Or.inr (Or.inr ⟨Or.inr ⟨e1, hb, h8⟩, Or.inr ⟨e2, ha, h9⟩⟩)
theorem cu_dp (hC : cu9 n V G P1 P2 P3 rel) (hP : ∀ x, x < n → P1 x ≠ o ∧ P2 x ≠ o ∧ P3 x ≠ o) : cu9 n V (fun g => G g ∧ g ≠ o) P1 P2 P3 (rdp9 o rel) := by
  obtain ⟨⟨hE, hx⟩, h2, h3, h4⟩ := hC
  refine ⟨⟨fun s => rdp_e (hE s), fun s x x1 sx => ?_⟩, fun s hs g h h9 hne => ?_, fun g hg => h3 g hg.1, fun x x1 => ?_⟩
  · obtain ⟨p1, p2, p3⟩ := hP x x1
    rcases hx s x x1 sx with ⟨a, b⟩ | ⟨a, b, c⟩
    · left
      refine ⟨fun h9 => a ((rdp_y (hE s) p1 p3).mp h9), fun g h => ?_⟩
      rw [adr_dp (hE s) p1 p3, ← b g h]
      rfl
    · right
      refine ⟨(rdp_y (hE s) p1 p3).mpr a, fun h9 => b ((rdp_y (hE _) p1 p2).mp h9), fun g h => ?_⟩
      rw [adr_dp (hE _) p1 p2, ← c g h]
      rfl
  · rcases h9 with e | ⟨e1, e2, e3⟩
    · exact absurd e hne
    · obtain ⟨a, b⟩ := h2 s hs g h e3 hne
      exact ⟨⟨a, e1⟩, b, e2⟩
  · obtain ⟨p1, p2, p3⟩ := hP x x1
    obtain ⟨q1, q2, q3⟩ := h4 x x1
    exact ⟨⟨q1, p1⟩, ⟨q2, p2⟩, q3, p3⟩
theorem ph_dp (hE : ∀ s, eqv9 (rel s)) (hal : ∀ s, (∀ y, n ≤ y → s y = false) → ∃ g, G g ∧ g ≠ o ∧ rel s o g) : phi9 n G (fun g => G g ∧ g ≠ o) P1 P2 P3 P1 P2 P3 rel (rdp9 o rel) (fun g => g) := by
  refine ⟨fun g hg => hg.1, fun s hs => ⟨fun g h hg hh => rdp_y (hE s) hg.2 hh.2, fun g hg => ?_, fun x _ => ⟨(hE s).1 _, (hE s).1 _, (hE s).1 _⟩⟩⟩
  by_cases c : g = o
  · obtain ⟨g', a, b, e⟩ := hal s hs
    exact ⟨g', ⟨a, b⟩, by rw [c]; exact e⟩
  · exact ⟨g, ⟨hg, c⟩, (hE s).1 g⟩
end XCHW
/-- the pair -/
def bgO (A : rn_L) (L0 L1 : List vT) (X Y : Nat) (r0 r0' r1 r1' : vT) : Prop := (L0 ∈ A ∧ r0 ∈ L0 ∧ sc L0 r0 = r0') ∧ (L1 ∈ A ∧ r1 ∈ L1 ∧ sc L1 r1 = r1') ∧ X ≠ Y ∧ ((r0 = (X, 0) ∧ r0' = (Y, 0)) ∨ (r0 = (Y, 0) ∧ r0' = (X, 0))) ∧ ((r1 = (X, 1) ∧ r1' = (Y, 1)) ∨ (r1 = (Y, 1) ∧ r1' = (X, 1)))
/-- which of the two is turned where there is a loop between -/
def bgS (sg : Nat → Bool) (X Y : Nat) (r0 r1 : vT) : Prop := (r1.1 = r0.1 ∧ sg X = false ∧ sg Y = true) ∨ (r1.1 ≠ r0.1 ∧ sg X = true ∧ sg Y = false)
section XCHX
variable {A : rn_L} {sg : Nat → Bool} {nm : Nat → Nat} {n k X Y : Nat} {s : Nat → Bool} {L0 L1 : List vT} {r0 r0' r1 r1' : vT} {p d b : Int}
theorem bg_pr (hb : bdA A) (h : bgO A L0 L1 X Y r0 r0' r1 r1') : prA9 A r0' = r0 ∧ prA9 A r1' = r1 := ⟨prA_eq hb.1 h.1.1 h.1.2.1 h.1.2.2, prA_eq hb.1 h.2.1.1 h.2.1.2.1 h.2.1.2.2⟩
theorem bg_lp (hb : bdA A) (h : bgO A L0 L1 X Y r0 r0' r1 r1') (hs : bgS sg X Y r0 r1) {a c : Nat} (hj : jc9 A sg X true a c ∨ jc9 A sg Y false a c) : (a = gV9 r0 ∧ c = gV9 r1) ∨ ((a = gV9 (prA9 A r0) ∨ a = gV9 r0') ∧ (c = gV9 (prA9 A r1) ∨ c = gV9 r1')) := by
  obtain ⟨p0, p1⟩ := bg_pr hb h
  obtain ⟨-, -, hne, c0, c1⟩ := h
  have hne' : ¬ Y = X := fun h9 => hne h9.symm
  rcases c0 with ⟨rfl, rfl⟩ | ⟨rfl, rfl⟩ <;> rcases c1 with ⟨rfl, rfl⟩ | ⟨rfl, rfl⟩ <;> rcases hs with ⟨e, e1, e2⟩ | ⟨e, e1, e2⟩ <;> first | exact absurd rfl e | exact absurd e hne | exact absurd e hne' | (simp only [jc9, e1, e2, p0, p1] at hj; simp at hj; rcases hj with (⟨e3, e4⟩ | ⟨e3, e4⟩) | (⟨e3, e4⟩ | ⟨e3, e4⟩) <;> rw [e3, e4] <;> simp)
theorem bg_th (hb : bdA A) (h : bgO A L0 L1 X Y r0 r0' r1 r1') (hs : bgS sg X Y r0 r1) {a c : Nat} (hj : jc9 A sg X false a c ∨ jc9 A sg Y true a c) : ((a = gV9 (prA9 A r0) ∨ a = gV9 r0') ∧ c = gV9 r1) ∨ (a = gV9 r0 ∧ (c = gV9 (prA9 A r1) ∨ c = gV9 r1')) := by
  obtain ⟨p0, p1⟩ := bg_pr hb h
  obtain ⟨-, -, hne, c0, c1⟩ := h
  have hne' : ¬ Y = X := fun h9 => hne h9.symm
  rcases c0 with ⟨rfl, rfl⟩ | ⟨rfl, rfl⟩ <;> rcases c1 with ⟨rfl, rfl⟩ | ⟨rfl, rfl⟩ <;> rcases hs with ⟨e, e1, e2⟩ | ⟨e, e1, e2⟩ <;> first | exact absurd rfl e | exact absurd e hne | exact absurd e hne' | (simp only [jc9, e1, e2, p0, p1] at hj; simp at hj; rcases hj with (⟨e3, e4⟩ | ⟨e3, e4⟩) | (⟨e3, e4⟩ | ⟨e3, e4⟩) <;> rw [e3, e4] <;> simp)
/-- all four joins of the way through -/
theorem bg_ht (hb : bdA A) (h : bgO A L0 L1 X Y r0 r0' r1 r1') (hs : bgS sg X Y r0 r1) : (jc9 A sg X false (gV9 (prA9 A r0)) (gV9 r1) ∨ jc9 A sg Y true (gV9 (prA9 A r0)) (gV9 r1)) ∧ (jc9 A sg X false (gV9 r0') (gV9 r1) ∨ jc9 A sg Y true (gV9 r0') (gV9 r1)) ∧ (jc9 A sg X false (gV9 r0) (gV9 (prA9 A r1)) ∨ jc9 A sg Y true (gV9 r0) (gV9 (prA9 A r1))) ∧ (jc9 A sg X false (gV9 r0) (gV9 r1') ∨ jc9 A sg Y true (gV9 r0) (gV9 r1')) := by
  obtain ⟨p0, p1⟩ := bg_pr hb h
  obtain ⟨-, -, hne, c0, c1⟩ := h
  have hne' : ¬ Y = X := fun h9 => hne h9.symm
  rcases c0 with ⟨rfl, rfl⟩ | ⟨rfl, rfl⟩ <;> rcases c1 with ⟨rfl, rfl⟩ | ⟨rfl, rfl⟩ <;> rcases hs with ⟨e, e1, e2⟩ | ⟨e, e1, e2⟩ <;> first | exact absurd rfl e | exact absurd e hne | exact absurd e hne' | (simp only [jc9, e1, e2, p0, p1]; simp)
/-- the gap between the visits under is never alone -/
theorem bg_g1 (hb : bdA A) (h : bgO A L0 L1 X Y r0 r0' r1 r1') (t : Bool) : ∃ a, (a = gV9 (X, 0) ∨ a = gV9 (prA9 A (X, 0))) ∧ jc9 A sg X t a (gV9 r1) := by
  obtain ⟨p0, p1⟩ := bg_pr hb h
  obtain ⟨-, -, hne, c0, c1⟩ := h
  rcases c1 with ⟨rfl, rfl⟩ | ⟨rfl, rfl⟩
  · by_cases c : sg X = t
    · exact ⟨_, Or.inr rfl, Or.inl ⟨c, Or.inl ⟨rfl, rfl⟩⟩⟩
    · exact ⟨_, Or.inl rfl, Or.inr ⟨c, Or.inr ⟨rfl, rfl⟩⟩⟩
  · by_cases c : sg X = t
    · exact ⟨_, Or.inl rfl, Or.inl ⟨c, Or.inr ⟨rfl, by rw [p1]⟩⟩⟩
    · exact ⟨_, Or.inr rfl, Or.inr ⟨c, Or.inl ⟨rfl, by rw [p1]⟩⟩⟩
theorem bg_in (hb : bdA A) (h : bgO A L0 L1 X Y r0 r0' r1 r1') : (r0 ∈ A.flatten ∧ r0' ∈ A.flatten) ∧ r1 ∈ A.flatten ∧ r1' ∈ A.flatten := by
  obtain ⟨⟨a1, a2, a3⟩, ⟨b1, b2, b3⟩, -⟩ := h
  refine ⟨⟨List.mem_flatten.mpr ⟨L0, a1, a2⟩, List.mem_flatten.mpr ⟨L0, a1, ?_⟩⟩, List.mem_flatten.mpr ⟨L1, b1, b2⟩, List.mem_flatten.mpr ⟨L1, b1, ?_⟩⟩
  · rw [← a3]
    exact sc_in a2 (L_nd hb.1 a1)
  · rw [← b3]
    exact sc_in b2 (L_nd hb.1 b1)
/-- the kinds of the four visits -/
theorem bg_kd (h : bgO A L0 L1 X Y r0 r0' r1 r1') : r0.2 = 0 ∧ r0'.2 = 0 ∧ r1.2 = 1 ∧ r1'.2 = 1 ∧ r0 ≠ r0' ∧ r1 ≠ r1' ∧ (r0.1 = X ∨ r0.1 = Y) ∧ (r0'.1 = X ∨ r0'.1 = Y) ∧ (r1.1 = X ∨ r1.1 = Y) ∧ (r1'.1 = X ∨ r1'.1 = Y) := by
  obtain ⟨-, -, hne, c0, c1⟩ := h
  have hne' : ¬ Y = X := fun h9 => hne h9.symm
  rcases c0 with ⟨rfl, rfl⟩ | ⟨rfl, rfl⟩ <;> rcases c1 with ⟨rfl, rfl⟩ | ⟨rfl, rfl⟩ <;> simp [hne, hne']
/-- a gap before a visit is one of the two between only before the second visit -/
theorem bg_bf (hb : bdA A) (h : bgO A L0 L1 X Y r0 r0' r1 r1') {q : vT} (hq : q ∈ A.flatten) : (gV9 (prA9 A q) = gV9 r0 → q = r0') ∧ (gV9 (prA9 A q) = gV9 r1 → q = r1') := by
  have u2 : ∀ p, p ∈ A.flatten → p.2 < 2 := fun p hp => (hb.2.1 p hp).2
  obtain ⟨⟨i0, -⟩, i1, -⟩ := bg_in hb h
  obtain ⟨L, hL, hqL⟩ := List.mem_flatten.mp hq
  obtain ⟨m1, m2⟩ := prA_of hb.1 hL hqL
  constructor
  · intro e
    have e := gA_inj (u2 _ (prA_in hb.1 hq)) (u2 _ i0) e
    rw [e] at m1 m2
    rw [← m2, same_L hb.1 h.1.1 hL h.1.2.1 m1]
    exact h.1.2.2
  · intro e
    have e := gA_inj (u2 _ (prA_in hb.1 hq)) (u2 _ i1) e
    rw [e] at m1 m2
    rw [← m2, same_L hb.1 h.2.1.1 hL h.2.1.2.1 m1]
    exact h.2.1.2.2
/-- the ends of other crossings -/
theorem bg_end (hb : bdA A) (hO : nmO A nm (n + 2)) (h : bgO A L0 L1 (nm n) (nm (n + 1)) r0 r0' r1 r1') {y u : Nat} (hy : y < n) (hu : u < 2) : (nm y, u) ∈ A.flatten ∧ ((nm y, u) ≠ r0 ∧ (nm y, u) ≠ r0' ∧ (nm y, u) ≠ r1 ∧ (nm y, u) ≠ r1') ∧ (gV9 (nm y, u) ≠ gV9 r0 ∧ gV9 (nm y, u) ≠ gV9 r1) ∧ gV9 (prA9 A (nm y, u)) ≠ gV9 r0 ∧ gV9 (prA9 A (nm y, u)) ≠ gV9 r1 := by
  have u2 : ∀ p, p ∈ A.flatten → p.2 < 2 := fun p hp => (hb.2.1 p hp).2
  have ne1 : nm y ≠ nm n := fun h9 => by
    have := hO.2.1 y n (by omega) (by omega) h9
    omega
  have ne2 : nm y ≠ nm (n + 1) := fun h9 => by
    have := hO.2.1 y (n + 1) (by omega) (by omega) h9
    omega
  have m : (nm y, u) ∈ A.flatten := by
    obtain ⟨a, b⟩ := hO.1 y (by omega)
    rcases Nat.lt_or_ge u 1 with c | c
    · rw [show u = 0 by omega]
      exact a
    · rw [show u = 1 by omega]
      exact b
  obtain ⟨-, -, -, -, -, -, k0, k0', k1, k1'⟩ := bg_kd h
  have nq : ∀ q : vT, (q.1 = nm n ∨ q.1 = nm (n + 1)) → (nm y, u) ≠ q := fun q hq h9 => by
    rw [← h9] at hq
    exact hq.elim ne1 ne2
  obtain ⟨⟨i0, -⟩, i1, -⟩ := bg_in hb h
  obtain ⟨f0, f1⟩ := bg_bf hb h m
  exact ⟨m, ⟨nq _ k0, nq _ k0', nq _ k1, nq _ k1'⟩, ⟨fun h9 => nq _ k0 (gA_inj (u2 _ m) (u2 _ i0) h9), fun h9 => nq _ k1 (gA_inj (u2 _ m) (u2 _ i1) h9)⟩, fun h9 => nq _ k0' (f0 h9), fun h9 => nq _ k1' (f1 h9)⟩
/-- the six gaps -/
theorem bg_six (hb : bdA A) (h : bgO A L0 L1 X Y r0 r0' r1 r1') : gV9 r0 ≠ gV9 r1 ∧ (gV9 (prA9 A r0) ≠ gV9 r0 ∧ gV9 (prA9 A r0) ≠ gV9 r1) ∧ (gV9 r0' ≠ gV9 r0 ∧ gV9 r0' ≠ gV9 r1) ∧ (gV9 (prA9 A r1) ≠ gV9 r0 ∧ gV9 (prA9 A r1) ≠ gV9 r1) ∧ gV9 r1' ≠ gV9 r0 ∧ gV9 r1' ≠ gV9 r1 := by
  have u2 : ∀ p, p ∈ A.flatten → p.2 < 2 := fun p hp => (hb.2.1 p hp).2
  obtain ⟨⟨i0, i0'⟩, i1, i1'⟩ := bg_in hb h
  obtain ⟨z0, z0', z1, z1', n0, n1, -⟩ := bg_kd h
  have nv : ∀ q q' : vT, q ∈ A.flatten → q' ∈ A.flatten → q ≠ q' → gV9 q ≠ gV9 q' := fun q q' h1 h2 h3 h9 => h3 (gA_inj (u2 _ h1) (u2 _ h2) h9)
  have n2 : ∀ q q' : vT, q.2 ≠ q'.2 → q ≠ q' := fun q q' h1 h9 => h1 (congrArg Prod.snd h9)
  obtain ⟨a0, a1⟩ := bg_bf hb h i0
  obtain ⟨b0, b1⟩ := bg_bf hb h i1
  exact ⟨nv _ _ i0 i1 (n2 _ _ (by omega)), ⟨fun h9 => n0 (a0 h9), fun h9 => n2 r0 r1' (by omega) (a1 h9)⟩, ⟨nv _ _ i0' i0 (fun h9 => n0 h9.symm), nv _ _ i0' i1 (n2 _ _ (by omega))⟩, ⟨fun h9 => n2 r1 r0' (by omega) (b0 h9), fun h9 => n1 (b1 h9)⟩, nv _ _ i1' i0 (n2 _ _ (by omega)), nv _ _ i1' i1 (fun h9 => n1 h9.symm)⟩
/-- the loop between the two -/
theorem bg_al (hb : bdA A) (hO : nmO A nm (n + 2)) (h : bgO A L0 L1 (nm n) (nm (n + 1)) r0 r0' r1 r1') (hs : bgS sg (nm n) (nm (n + 1)) r0 r1) (s1 : s n = true) (s2 : s (n + 1) = false) : ∀ g, relL9 A sg nm (n + 2) s (gV9 r0) g → g = gV9 r0 ∨ g = gV9 r1 := fun g h1 => by
  obtain ⟨x1, ⟨x2, x3⟩, ⟨x4, x5⟩, ⟨x6, x7⟩, x8, x9⟩ := bg_six hb h
  have key := h1 (fun u v => (u = gV9 r0 ∨ u = gV9 r1) ↔ (v = gV9 r0 ∨ v = gV9 r1)) ⟨fun _ => Iff.rfl, fun _ _ h9 => h9.symm, fun _ _ _ h9 h8 => h9.trans h8⟩ (fun a c ⟨y, y1, y2⟩ => ?_)
  · exact key.mp (Or.inl rfl)
  · by_cases c1 : y < n
    · have en := jc_ends (o := gV9 r0) (fun u hu => ⟨(bg_end hb hO h c1 hu).2.2.1.1, (bg_end hb hO h c1 hu).2.2.2.1⟩) y2
      have en' := jc_ends (o := gV9 r1) (fun u hu => ⟨(bg_end hb hO h c1 hu).2.2.1.2, (bg_end hb hO h c1 hu).2.2.2.2⟩) y2
      exact ⟨fun h9 => absurd h9 (fun h8 => h8.elim en.1 en'.1), fun h9 => absurd h9 (fun h8 => h8.elim en.2 en'.2)⟩
    · have hj : jc9 A sg (nm n) true a c ∨ jc9 A sg (nm (n + 1)) false a c := by
        rcases (show y = n ∨ y = n + 1 by omega) with e | e
        · rw [e, s1] at y2
          exact Or.inl y2
        · rw [e, s2] at y2
          exact Or.inr y2
      rcases bg_lp hb h hs hj with ⟨e1, e2⟩ | ⟨e1, e2⟩
      · rw [e1, e2]
        exact ⟨fun _ => Or.inr rfl, fun _ => Or.inl rfl⟩
      · have na : ¬ (a = gV9 r0 ∨ a = gV9 r1) := by
          rcases e1 with e | e <;> rw [e]
          · exact fun h8 => h8.elim x2 x3
          · exact fun h8 => h8.elim x4 x5
        have nc : ¬ (c = gV9 r0 ∨ c = gV9 r1) := by
          rcases e2 with e | e <;> rw [e]
          · exact fun h8 => h8.elim x6 x7
          · exact fun h8 => h8.elim x8 x9
        exact ⟨fun h9 => absurd h9 na, fun h9 => absurd h9 nc⟩
/-- the way through -/
theorem bg_rel (hb : bdA A) (hO : nmO A nm (n + 2)) (h : bgO A L0 L1 (nm n) (nm (n + 1)) r0 r0' r1 r1') (hs : bgS sg (nm n) (nm (n + 1)) r0 r1) {t : Nat → Bool} (s1 : s n = false) (s2 : s (n + 1) = true) (ht : ∀ y, y < n → t y = s y) {g k : Nat} (g1 : g ≠ gV9 r0 ∧ g ≠ gV9 r1) (k1 : k ≠ gV9 r0 ∧ k ≠ gV9 r1) : relX9 A sg nm n [(r0, r0'), (r1, r1')] t g k ↔ relL9 A sg nm (n + 2) s g k := by
  obtain ⟨x1, ⟨x2, x3⟩, ⟨x4, x5⟩, ⟨x6, x7⟩, x8, x9⟩ := bg_six hb h
  obtain ⟨j1, j2, j3, j4⟩ := bg_ht hb h hs
  have up : ∀ {a c : Nat}, (jc9 A sg (nm n) false a c ∨ jc9 A sg (nm (n + 1)) true a c) → relL9 A sg nm (n + 2) s a c := fun {a c} h9 => by
    rcases h9 with h9 | h9
    · exact lst_i ⟨n, by omega, by rw [s1]; exact h9⟩
    · exact lst_i ⟨n + 1, by omega, by rw [s2]; exact h9⟩
  have E := lst_e (jp9 A sg nm (n + 2) s)
  have E' := lst_e (fun a b => jp9 A sg nm n t a b ∨ ∃ z, z ∈ [(r0, r0'), (r1, r1')] ∧ a = gV9 (prA9 A z.1) ∧ b = gV9 z.2)
  have q0 : relX9 A sg nm n [(r0, r0'), (r1, r1')] t (gV9 (prA9 A r0)) (gV9 r0') := lst_i (Or.inr ⟨(r0, r0'), List.mem_cons_self, rfl, rfl⟩)
  have q1 : relX9 A sg nm n [(r0, r0'), (r1, r1')] t (gV9 (prA9 A r1)) (gV9 r1') := lst_i (Or.inr ⟨(r1, r1'), List.mem_cons_of_mem _ List.mem_cons_self, rfl, rfl⟩)
  constructor
  · refine lst_m (Pr := fun a b => jp9 A sg nm n t a b ∨ ∃ z, z ∈ [(r0, r0'), (r1, r1')] ∧ a = gV9 (prA9 A z.1) ∧ b = gV9 z.2) (Pr' := jp9 A sg nm (n + 2) s) ?_
    intro a c h9
    rcases h9 with ⟨y, y1, y2⟩ | ⟨z, z1, z2, z3⟩
    · exact lst_i ⟨y, by omega, by rw [← ht y y1]; exact y2⟩
    · rcases List.mem_cons.mp z1 with e | e
      · rw [z2, z3, e]
        exact E.2.2 _ _ _ (up j1) (E.2.1 _ _ (up j2))
      · rw [List.mem_singleton.mp e] at z2 z3
        rw [z2, z3]
        exact E.2.2 _ _ _ (E.2.1 _ _ (up j3)) (up j4)
  · intro h1
    have key := h1 (fun u v => relX9 A sg nm n [(r0, r0'), (r1, r1')] t (if u = gV9 r0 then gV9 r1' else if u = gV9 r1 then gV9 r0' else u) (if v = gV9 r0 then gV9 r1' else if v = gV9 r1 then gV9 r0' else v)) (eqv_pb E' (fun u => if u = gV9 r0 then gV9 r1' else if u = gV9 r1 then gV9 r0' else u)) (fun a c ⟨y, y1, y2⟩ => ?_)
    · rw [if_neg g1.1, if_neg g1.2, if_neg k1.1, if_neg k1.2] at key
      exact key
    · by_cases c1 : y < n
      · have en := jc_ends (o := gV9 r0) (fun u hu => ⟨(bg_end hb hO h c1 hu).2.2.1.1, (bg_end hb hO h c1 hu).2.2.2.1⟩) y2
        have en' := jc_ends (o := gV9 r1) (fun u hu => ⟨(bg_end hb hO h c1 hu).2.2.1.2, (bg_end hb hO h c1 hu).2.2.2.2⟩) y2
        show relX9 A sg nm n [(r0, r0'), (r1, r1')] t (if a = gV9 r0 then gV9 r1' else if a = gV9 r1 then gV9 r0' else a) (if c = gV9 r0 then gV9 r1' else if c = gV9 r1 then gV9 r0' else c)
        rw [if_neg en.1, if_neg en'.1, if_neg en.2, if_neg en'.2]
        exact lst_i (Or.inl ⟨y, c1, by rw [ht y c1]; exact y2⟩)
      · have hj : jc9 A sg (nm n) false a c ∨ jc9 A sg (nm (n + 1)) true a c := by
          rcases (show y = n ∨ y = n + 1 by omega) with e | e
          · rw [e, s1] at y2
            exact Or.inl y2
          · rw [e, s2] at y2
            exact Or.inr y2
        show relX9 A sg nm n [(r0, r0'), (r1, r1')] t (if a = gV9 r0 then gV9 r1' else if a = gV9 r1 then gV9 r0' else a) (if c = gV9 r0 then gV9 r1' else if c = gV9 r1 then gV9 r0' else c)
        rcases bg_th hb h hs hj with ⟨e1, e2⟩ | ⟨e1, e2⟩
        · have x1' : ¬ gV9 r1 = gV9 r0 := fun h9 => x1 h9.symm
          rcases e1 with e | e
          · rw [e, e2, if_neg x2, if_neg x3, if_neg x1', if_pos rfl]
            exact q0
          · rw [e, e2, if_neg x4, if_neg x5, if_neg x1', if_pos rfl]
            exact E'.1 _
        · rw [e1, if_pos rfl]
          rcases e2 with e | e
          · rw [e, if_neg x6, if_neg x7]
            exact E'.2.1 _ _ q1
          · rw [e, if_neg x8, if_neg x9]
            exact E'.1 _
end XCHX
