-- CHAIN: a kink goes out of a list
def bL9 (p : Int) (A : rn_L) (sg : Nat → Bool) (nm : Nat → Nat) (c k : Nat) (d : Int) (r : Nat) (b : Int) : Prop := be9 p (Sg9 c 2000 (gG9 A) (relL9 A sg nm c) k d) (D9 (fun y => gV9 (nm y, 0)) (fun y => gV9 (prA9 A (nm y, 0))) (fun y => gV9 (prA9 A (nm y, 0))) (relL9 A sg nm c) c) r b
def cuL9 (A : rn_L) (sg : Nat → Bool) (nm : Nat → Nat) (c : Nat) : Prop := cu9 c 2000 (gG9 A) (fun y => gV9 (nm y, 0)) (fun y => gV9 (prA9 A (nm y, 0))) (fun y => gV9 (prA9 A (nm y, 0))) (relL9 A sg nm c)
section XCHV
variable {A : rn_L} {sg : Nat → Bool} {nm : Nat → Nat} {n k : Nat} {s : Nat → Bool} {L : List vT} {r r' : vT} {p d b : Int}
theorem ph_cg {G G' G1 G1' : Nat → Prop} {P1 P2 P3 P1' P2' P3' Q1 Q2 Q3 Q1' Q2' Q3' : Nat → Nat} {rel rel' rel1 rel1' : (Nat → Bool) → Nat → Nat → Prop} {φ : Nat → Nat} (hG : ∀ g, G1 g ↔ G g) (hG' : ∀ g, G1' g ↔ G' g) (hP : ∀ x, x < n → Q1 x = P1 x ∧ Q2 x = P2 x ∧ Q3 x = P3 x) (hP' : ∀ x, x < n → Q1' x = P1' x ∧ Q2' x = P2' x ∧ Q3' x = P3' x) (hr : ∀ s, (∀ y, n ≤ y → s y = false) → ∀ g h, rel1 s g h ↔ rel s g h) (hr' : ∀ s, (∀ y, n ≤ y → s y = false) → ∀ g h, rel1' s g h ↔ rel' s g h) (h : phi9 n G G' P1 P2 P3 P1' P2' P3' rel rel' φ) : phi9 n G1 G1' Q1 Q2 Q3 Q1' Q2' Q3' rel1 rel1' φ := by
  refine ⟨fun g hg => (hG _).mpr (h.1 g ((hG' g).mp hg)), fun s hs => ?_⟩
  obtain ⟨a1, a2, a3⟩ := h.2 s hs
  refine ⟨fun g k hg hk => ?_, fun g hg => ?_, fun x hx => ?_⟩
  · rw [hr s hs, hr' s hs]
    exact a1 g k ((hG' g).mp hg) ((hG' k).mp hk)
  · obtain ⟨g', g1, g2⟩ := a2 g ((hG g).mp hg)
    exact ⟨g', (hG' g').mpr g1, (hr s hs _ _).mpr g2⟩
  · obtain ⟨e1, e2, e3⟩ := hP x hx
    obtain ⟨f1, f2, f3⟩ := hP' x hx
    rw [e1, e2, e3, f1, f2, f3, hr s hs, hr s hs, hr s hs]
    exact a3 x hx
/-- the kink at the last crossing -/
def kkO (A : rn_L) (L : List vT) (x : Nat) (r r' : vT) : Prop := L ∈ A ∧ r ∈ L ∧ sc L r = r' ∧ ((r = (x, 0) ∧ r' = (x, 1)) ∨ (r = (x, 1) ∧ r' = (x, 0)))
theorem kk_ne {x : Nat} (h : kkO A L x r r') : r ≠ r' := by
  rcases h.2.2.2 with ⟨e1, e2⟩ | ⟨e1, e2⟩
  · rw [e1, e2]
    exact fun h9 => by cases h9
  · rw [e1, e2]
    exact fun h9 => by cases h9
theorem kk_nm (hO : nmO A nm (n + 1)) (h : kkO A L (nm n) r r') {y u : Nat} (hy : y < n) (hu : u < 2) : (nm y, u) ∈ A.flatten ∧ (nm y, u) ≠ r ∧ (nm y, u) ≠ r' := by
  have ne : nm y ≠ nm n := fun h9 => by
    have := hO.2.1 y n (by omega) (by omega) h9
    omega
  have m : (nm y, u) ∈ A.flatten := by
    obtain ⟨a, b⟩ := hO.1 y (by omega)
    rcases Nat.lt_or_ge u 1 with c | c
    · rw [show u = 0 by omega]
      exact a
    · rw [show u = 1 by omega]
      exact b
  refine ⟨m, ?_, ?_⟩
  · rcases h.2.2.2 with ⟨e1, e2⟩ | ⟨e1, e2⟩
    · rw [e1]
      exact fun h9 => ne (congrArg Prod.fst h9)
    · rw [e1]
      exact fun h9 => ne (congrArg Prod.fst h9)
  · rcases h.2.2.2 with ⟨e1, e2⟩ | ⟨e1, e2⟩
    · rw [e2]
      exact fun h9 => ne (congrArg Prod.fst h9)
    · rw [e2]
      exact fun h9 => ne (congrArg Prod.fst h9)
/-- what the kink joins where its gap is alone -/
theorem kk_jc (hb : bdA A) (h : kkO A L (nm n) r r') {t : Bool} (ht : sg (nm n) = t) {a c : Nat} (hj : jc9 A sg (nm n) t a c) : (a = gV9 r ∧ c = gV9 r) ∨ (a = gV9 (prA9 A r) ∧ c = gV9 r') ∨ (a = gV9 r' ∧ c = gV9 (prA9 A r)) := by
  obtain ⟨hL, hr, e, hc⟩ := h
  have pr' : prA9 A r' = r := prA_eq hb.1 hL hr e
  rcases hj with ⟨-, hj⟩ | ⟨c9, -⟩
  · rcases hc with ⟨e1, e2⟩ | ⟨e1, e2⟩
    · rw [← e1, ← e2, pr'] at hj
      rcases hj with h9 | h9
      · exact Or.inr (Or.inl h9)
      · exact Or.inl h9
    · rw [← e1, ← e2, pr'] at hj
      rcases hj with h9 | h9
      · exact Or.inl h9
      · exact Or.inr (Or.inr h9)
  · exact absurd ht c9
theorem kk_has (hb : bdA A) (h : kkO A L (nm n) r r') {t : Bool} (ht : sg (nm n) = t) : jc9 A sg (nm n) t (gV9 (prA9 A r)) (gV9 r') ∨ jc9 A sg (nm n) t (gV9 r') (gV9 (prA9 A r)) := by
  obtain ⟨hL, hr, e, hc⟩ := h
  rcases hc with ⟨e1, e2⟩ | ⟨e1, e2⟩
  · left
    rw [e1, e2]
    exact Or.inl ⟨ht, Or.inl ⟨rfl, rfl⟩⟩
  · right
    rw [e1, e2]
    exact Or.inl ⟨ht, Or.inr ⟨rfl, rfl⟩⟩
theorem kk_qr (hb : bdA A) {x : Nat} (h : kkO A L x r r') : prA9 A r ≠ r := fun h9 => by
  obtain ⟨-, w2⟩ := prA_of hb.1 h.1 h.2.1
  rw [h9, h.2.2.1] at w2
  exact kk_ne h w2.symm
theorem kk_in (hb : bdA A) {x : Nat} (h : kkO A L x r r') : r ∈ A.flatten ∧ r' ∈ A.flatten := ⟨List.mem_flatten.mpr ⟨L, h.1, h.2.1⟩, List.mem_flatten.mpr ⟨L, h.1, by rw [← h.2.2.1]; exact sc_in h.2.1 (L_nd hb.1 h.1)⟩⟩
/-- ends of the other crossings are other gaps -/
theorem kk_end (hb : bdA A) (hO : nmO A nm (n + 1)) (h : kkO A L (nm n) r r') {y u : Nat} (hy : y < n) (hu : u < 2) : gV9 (nm y, u) ≠ gV9 r ∧ gV9 (prA9 A (nm y, u)) ≠ gV9 r := by
  have u2 : ∀ p, p ∈ A.flatten → p.2 < 2 := fun p hp => (hb.2.1 p hp).2
  obtain ⟨m0, m1, m2⟩ := kk_nm hO h hy hu
  obtain ⟨rA, rA'⟩ := kk_in hb h
  obtain ⟨a1, -, -⟩ := prA_rm hb.1 h.1 h.2.1 h.2.2.1 (kk_ne h) m0 m1 m2
  exact ⟨fun h9 => m1 (gA_inj (u2 _ m0) (u2 _ rA) h9), fun h9 => a1 (gA_inj (u2 _ (prA_in hb.1 m0)) (u2 _ rA) h9)⟩
theorem jc_ends {x : Nat} {t : Bool} {a c o : Nat} (h : ∀ u, u < 2 → gV9 (x, u) ≠ o ∧ gV9 (prA9 A (x, u)) ≠ o) (hj : jc9 A sg x t a c) : a ≠ o ∧ c ≠ o := by
  obtain ⟨h1, h2⟩ := h 0 (by omega)
  obtain ⟨h3, h4⟩ := h 1 (by omega)
  rcases hj with ⟨-, ⟨e1, e2⟩ | ⟨e1, e2⟩⟩ | ⟨-, ⟨e1, e2⟩ | ⟨e1, e2⟩⟩ <;> rw [e1, e2]
  · exact ⟨h2, h3⟩
  · exact ⟨h1, h4⟩
  · exact ⟨h2, h4⟩
  · exact ⟨h1, h3⟩
theorem kk_al (hb : bdA A) (hO : nmO A nm (n + 1)) (h : kkO A L (nm n) r r') (hs : sg (nm n) = s n) : ∀ g, relL9 A sg nm (n + 1) s (gV9 r) g → g = gV9 r := fun g h1 => by
  have u2 : ∀ p, p ∈ A.flatten → p.2 < 2 := fun p hp => (hb.2.1 p hp).2
  obtain ⟨rA, rA'⟩ := kk_in hb h
  have ne1 : gV9 r' ≠ gV9 r := fun h9 => kk_ne h (gA_inj (u2 _ rA) (u2 _ rA') h9.symm)
  have ne2 : gV9 (prA9 A r) ≠ gV9 r := fun h9 => kk_qr hb h (gA_inj (u2 _ (prA_in hb.1 rA)) (u2 _ rA) h9)
  have key := h1 (fun g k => g = k ∨ (g ≠ gV9 r ∧ k ≠ gV9 r)) ⟨fun g => Or.inl rfl, fun g k h9 => h9.elim (fun e => Or.inl e.symm) (fun e => Or.inr e.symm), fun g k l h9 h8 => ?_⟩ (fun a c ⟨y, y1, y2⟩ => ?_)
  · rcases key with e | ⟨e, -⟩
    · exact e.symm
    · exact absurd rfl e
  · rcases h9 with e | ⟨e, e'⟩
    · rw [e]
      exact h8
    · rcases h8 with e2 | ⟨-, e2⟩
      · rw [← e2]
        exact Or.inr ⟨e, e'⟩
      · exact Or.inr ⟨e, e2⟩
  · by_cases c9 : y = n
    · rw [c9] at y2
      rcases kk_jc hb h hs y2 with ⟨e1, e2⟩ | ⟨e1, e2⟩ | ⟨e1, e2⟩
      · left
        rw [e1, e2]
      · right
        rw [e1, e2]
        exact ⟨ne2, ne1⟩
      · right
        rw [e1, e2]
        exact ⟨ne1, ne2⟩
    · exact Or.inr (jc_ends (fun u hu => kk_end hb hO h (by omega) hu) y2)
/-- the relation without the kink's crossing -/
theorem kk_rel (hb : bdA A) (h : kkO A L (nm n) r r') {t : Nat → Bool} (hs : sg (nm n) = s n) (ht : ∀ y, y < n → t y = s y) (g k : Nat) : relL9 A sg nm (n + 1) s g k ↔ relX9 A sg nm n [(r, r')] t g k := by
  constructor
  · refine lst_m (Pr := jp9 A sg nm (n + 1) s) (Pr' := fun a b => jp9 A sg nm n t a b ∨ ∃ z, z ∈ [(r, r')] ∧ a = gV9 (prA9 A z.1) ∧ b = gV9 z.2) ?_
    rintro a c ⟨y, y1, y2⟩
    have hX := lst_e (fun a b => jp9 A sg nm n t a b ∨ ∃ z, z ∈ [(r, r')] ∧ a = gV9 (prA9 A z.1) ∧ b = gV9 z.2)
    have par : relX9 A sg nm n [(r, r')] t (gV9 (prA9 A r)) (gV9 r') := lst_i (Or.inr ⟨(r, r'), List.mem_cons_self, rfl, rfl⟩)
    by_cases c9 : y = n
    · rw [c9] at y2
      rcases kk_jc hb h hs y2 with ⟨e1, e2⟩ | ⟨e1, e2⟩ | ⟨e1, e2⟩
      · rw [e1, e2]
        exact hX.1 _
      · rw [e1, e2]
        exact par
      · rw [e1, e2]
        exact hX.2.1 _ _ par
    · rw [← ht y (by omega)] at y2
      exact lst_i (Or.inl ⟨y, by omega, y2⟩)
  · refine lst_m (Pr := fun a b => jp9 A sg nm n t a b ∨ ∃ z, z ∈ [(r, r')] ∧ a = gV9 (prA9 A z.1) ∧ b = gV9 z.2) (Pr' := jp9 A sg nm (n + 1) s) ?_
    intro a c hac
    have hR := lst_e (jp9 A sg nm (n + 1) s)
    rcases hac with ⟨y, y1, y2⟩ | ⟨z, z1, z2, z3⟩
    · rw [ht y y1] at y2
      exact lst_i ⟨y, by omega, y2⟩
    · rw [List.mem_singleton.mp z1] at z2 z3
      rw [z2, z3]
      rcases kk_has hb h hs with j | j
      · exact lst_i ⟨n, by omega, j⟩
      · exact hR.2.1 _ _ (lst_i ⟨n, by omega, j⟩)
theorem gX_1 (hb : bdA A) (hr : r ∈ A.flatten) (g : Nat) : (gG9 A g ∧ g ≠ gV9 r) ↔ gX9 A [(r, r')] g := by
  have u2 : ∀ p, p ∈ A.flatten → p.2 < 2 := fun p hp => (hb.2.1 p hp).2
  constructor
  · rintro ⟨⟨p, p1, p2⟩ | ⟨i, i1, i2, i3⟩, ho⟩
    · refine Or.inl ⟨p, p1, fun z hz => ?_, p2⟩
      rw [List.mem_singleton.mp hz]
      intro h9
      rw [h9] at p2
      exact ho p2
    · exact Or.inr ⟨i, i1, i2, i3⟩
  · rintro (⟨p, p1, p2, p3⟩ | ⟨i, i1, i2, i3⟩)
    · refine ⟨Or.inl ⟨p, p1, p3⟩, fun h9 => p2 (r, r') List.mem_cons_self (gA_inj (u2 p p1) (u2 r hr) (p3.symm.trans h9))⟩
    · have := gV_lt hb hr
      exact ⟨Or.inr ⟨i, i1, i2, i3⟩, by omega⟩
theorem gX_0 (g : Nat) : gG9 A g ↔ gX9 A [] g := by
  constructor
  · rintro (⟨p, p1, p2⟩ | h)
    · exact Or.inl ⟨p, p1, fun z hz => absurd hz List.not_mem_nil, p2⟩
    · exact Or.inr h
  · rintro (⟨p, p1, -, p2⟩ | h)
    · exact Or.inl ⟨p, p1, p2⟩
    · exact Or.inr h
theorem rX_0 (s : Nat → Bool) (g h : Nat) : relL9 A sg nm n s g h ↔ relX9 A sg nm n [] s g h := lst_iff (fun a b h9 => lst_i (Or.inl h9)) (fun a b h9 => h9.elim lst_i (fun ⟨z, hz, _⟩ => absurd hz List.not_mem_nil)) g h
/-- R1 in lists -/
theorem cR1 {r0 : Nat} (hp : pr9 p) (hi : iv9 p) (hb : bdA A) (hO : nmO A nm (n + 1)) (h : kkO A L (nm n) r r') (hC : cuL9 A sg nm (n + 1)) (hC' : cuL9 (rmv (rmv A r) r') sg nm n) (hB : bL9 p A sg nm (n + 1) k d r0 b) : (sg (nm n) = false → bL9 p (rmv (rmv A r) r') sg nm n k (d + 1) r0 b) ∧ (sg (nm n) = true → 1 ≤ k → bL9 p (rmv (rmv A r) r') sg nm n (k + 1) (d - 2) r0 b) := by
  have u2 : ∀ p, p ∈ A.flatten → p.2 < 2 := fun p hp => (hb.2.1 p hp).2
  obtain ⟨rA, rA'⟩ := kk_in hb h
  have ne1 : gV9 r' ≠ gV9 r := fun h9 => kk_ne h (gA_inj (u2 _ rA) (u2 _ rA') h9.symm)
  have ne2 : gV9 (prA9 A r) ≠ gV9 r := fun h9 => kk_qr hb h (gA_inj (u2 _ (prA_in hb.1 rA)) (u2 _ rA) h9)
  have pr' : prA9 A r' = r := prA_eq hb.1 h.1 h.2.1 h.2.2.1
  -- the ends of the kink, its own gap first
  obtain ⟨Q1, Q2, hq, q1, q2, q3⟩ : ∃ Q1 Q2 : Nat → Nat, (∀ x, x < n + 1 → flp9 (fun y => gV9 (nm y, 0)) (fun y => gV9 (prA9 A (nm y, 0))) (fun y => gV9 (prA9 A (nm y, 0))) Q1 Q2 Q2 x) ∧ Q1 n = gV9 r ∧ Q2 n ≠ gV9 r ∧ ∀ y, y < n → Q1 y = gV9 (nm y, 0) ∧ Q2 y = gV9 (prA9 A (nm y, 0)) := by
    rcases h.2.2.2 with ⟨e1, e2⟩ | ⟨e1, e2⟩
    · refine ⟨fun y => gV9 (nm y, 0), fun y => gV9 (prA9 A (nm y, 0)), fun x _ => Or.inl ⟨rfl, rfl, rfl⟩, by rw [e1], ?_, fun y _ => ⟨rfl, rfl⟩⟩
      show gV9 (prA9 A (nm n, 0)) ≠ gV9 r
      rw [← e1]
      exact ne2
    · refine ⟨fun y => if y = n then gV9 r else gV9 (nm y, 0), fun y => if y = n then gV9 r' else gV9 (prA9 A (nm y, 0)), fun x _ => ?_, if_pos rfl, ?_, fun y hy => ⟨if_neg (by omega), if_neg (by omega)⟩⟩
      · by_cases c : x = n
        · right
          refine ⟨rfl, ?_, ?_, ?_⟩
          · show (if x = n then gV9 r else gV9 (nm x, 0)) = gV9 (prA9 A (nm x, 0))
            rw [if_pos c, c, ← e2, pr']
          · show (if x = n then gV9 r' else gV9 (prA9 A (nm x, 0))) = gV9 (nm x, 0)
            rw [if_pos c, c, ← e2]
          · show (if x = n then gV9 r' else gV9 (prA9 A (nm x, 0))) = gV9 (nm x, 0)
            rw [if_pos c, c, ← e2]
        · left
          exact ⟨if_neg c, if_neg c, if_neg c⟩
      · show (if n = n then gV9 r' else gV9 (prA9 A (nm n, 0))) ≠ gV9 r
        rw [if_pos rfl]
        exact ne1
  have hCq := flp_cu hq hC
  have hBq := be_flp hq hC hB
  have pq : ∀ y, y < n → Q1 y ≠ gV9 r ∧ Q2 y ≠ gV9 r ∧ Q2 y ≠ gV9 r := fun y hy => by
    obtain ⟨e1, e2⟩ := q3 y hy
    obtain ⟨f1, f2⟩ := kk_end hb hO h hy (show 0 < 2 by omega)
    rw [e1, e2]
    exact ⟨f1, f2, f2⟩
  have gr : gG9 A (gV9 r) := Or.inl ⟨r, rA, rfl⟩
  have q3' : ∀ x, x < n → Q1 x = gV9 (nm x, 0) ∧ Q2 x = gV9 (prA9 A (nm x, 0)) ∧ Q2 x = gV9 (prA9 A (nm x, 0)) := fun x hx => ⟨(q3 x hx).1, (q3 x hx).2, (q3 x hx).2⟩
  have R := rmP (sg := sg) (nm := nm) (n := n) (ps := []) hb h.1 h.2.1 h.2.2.1 (kk_ne h) (fun z hz => absurd hz List.not_mem_nil) (fun z hz => absurd hz List.not_mem_nil) (fun y u hy hu => kk_nm hO h hy hu)
  constructor
  · intro hsg
    have kn : knW n (gV9 r) (fun _ => True) Q1 Q2 Q2 (relL9 A sg nm (n + 1)) := ⟨fun s _ hs => kk_al hb hO h (hsg.trans hs.symm), q1, q2, fun y s hy _ _ => pq y hy, fun _ _ _ => trivial, fun _ _ => trivial⟩
    obtain ⟨c1, c2⟩ := r1A hp hi hCq gr kn hBq
    refine be_ph hp hi c1 hC' (ph_cg (gX_1 hb rA) gX_0 q3' (fun x _ => ⟨rfl, rfl, rfl⟩) (fun s hs g k => ?_) (fun s _ => rX_0 s) R) c2
    exact kk_rel hb h (hsg.trans (hs n (Nat.le_refl n)).symm) (fun y _ => rfl) g k
  · intro hsg hk
    have kn : knB n (gV9 r) (fun _ => True) Q1 Q2 Q2 (relL9 A sg nm (n + 1)) := ⟨fun s _ hs => kk_al hb hO h (hsg.trans hs.symm), q1, fun y s hy _ _ => pq y hy, fun _ _ _ _ => trivial, fun _ _ => trivial⟩
    obtain ⟨c1, c2⟩ := r1B hp hi hk hCq gr kn hBq
    refine be_ph hp hi c1 hC' (ph_cg (gX_1 hb rA) gX_0 q3' (fun x _ => ⟨rfl, rfl, rfl⟩) (fun s hs g k => ?_) (fun s _ => rX_0 s) R) c2
    exact kk_rel hb h (hsg.trans on_x.symm) (fun y hy => (on_o (by omega)).symm) g k
end XCHV
