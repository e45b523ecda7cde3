-- CHAIN: a kink of type A; a loop that comes (type B)
def stt9 (m : Nat → Bool) (o : Nat) (b : Bool) : Nat → Bool := fun g => if g = o then b else m g
def lo9 (n o a : Nat) (γ : gn9) : gn9 := (off9 γ.1 n, stt9 γ.2 o (γ.2 a))
def hB9 (n o a : Nat) (γ : gn9) : fc9 := if γ.1 n = true ∧ γ.2 o = true then [(par9 γ.1 n, lo9 n o a γ)] else []
def knB (n o : Nat) (W : (Nat → Bool) → Prop) (P1 P2 P3 : Nat → Nat) (rel : (Nat → Bool) → Nat → Nat → Prop) : Prop := (∀ s, W s → s n = true → ∀ g, rel s o g → g = o) ∧ P1 n = o ∧ (∀ y s, y < n → W s → s y = false → P1 y ≠ o ∧ P2 y ≠ o ∧ P3 y ≠ o) ∧ (∀ s y, y ≤ n → W s → W (on9 s y)) ∧ ∀ s, W s → W (off9 s n)
section XCHO
variable {n o V k : Nat} {W : (Nat → Bool) → Prop} {G : Nat → Prop} {P1 P2 P3 : Nat → Nat} {rel : (Nat → Bool) → Nat → Nat → Prop} {γ δ : gn9} {d p b : Int} {R : Nat → Nat → Prop} {Q : Nat → Prop}
theorem st_o (m : Nat → Bool) (o : Nat) (b : Bool) : stt9 m o b o = b := if_pos rfl
theorem st_n {m : Nat → Bool} {o g : Nat} {b : Bool} (h : g ≠ o) : stt9 m o b g = m g := if_neg h
theorem ff_of {c : Bool} (h : ¬ c = true) : c = false := by cases c <;> simp_all
/-- a loop of one gap less -/
theorem cls_o (hV : ∀ g, G g → g < V) (ho : G o) (hR : eqv9 R) (hal : ∀ g, R o g → g = o) : (Q o → cls9 R G V Q = cls9 R (fun g => G g ∧ g ≠ o) V Q + 1) ∧ (¬ Q o → cls9 R G V Q = cls9 R (fun g => G g ∧ g ≠ o) V Q) := by
  have e : ∀ g, ld9 R G g ↔ ld9 R (fun g => G g ∧ g ≠ o) g ∨ g = o := fun g => by
    constructor
    · intro h9
      by_cases c : g = o
      · exact Or.inr c
      · exact Or.inl ⟨⟨h9.1, c⟩, fun h h1 h2 h3 => h9.2 h h1 h2.1 h3⟩
    · rintro (h9 | h9)
      · refine ⟨h9.1.1, fun h h1 h2 h3 => ?_⟩
        by_cases c : h = o
        · rw [c] at h3
          exact h9.1.2 (hal g h3)
        · exact h9.2 h h1 ⟨h2, c⟩ h3
      · rw [h9]
        refine ⟨ho, fun h h1 h2 h3 => ?_⟩
        have := hal h (hR.2.1 _ _ h3)
        omega
  constructor
  · intro q
    refine cn_one (a := o) (hV o ho) (fun h9 => h9.1.1.2 rfl) (fun g _ => ⟨fun h9 => ?_, fun h9 => ?_⟩)
    · rcases (e g).mp h9.1 with h8 | h8
      · exact Or.inl ⟨h8, h9.2⟩
      · exact Or.inr h8
    · rcases h9 with h8 | h8
      · exact ⟨(e g).mpr (Or.inl h8.1), h8.2⟩
      · rw [h8]
        exact ⟨(e o).mpr (Or.inr rfl), q⟩
  · intro q
    refine cn_cg (fun g _ => ⟨fun h9 => ?_, fun h9 => ⟨(e g).mpr (Or.inl h9.1), h9.2⟩⟩)
    rcases (e g).mp h9.1 with h8 | h8
    · exact ⟨h8, h9.2⟩
    · rw [h8] at h9
      exact absurd h9.2 q
/-- a kink of type A goes -/
theorem r1A {r : Nat} (hp : pr9 p) (hi : iv9 p) (hC : cu9 (n + 1) V G P1 P2 P3 rel) (ho : G o) (hk : knW n o (fun _ => True) P1 P2 P3 rel) (hb : be9 p (Sg9 (n + 1) V G rel k d) (D9 P1 P2 P3 rel (n + 1)) r b) : cu9 n V (fun g => G g ∧ g ≠ o) P1 P2 P3 rel ∧ be9 p (Sg9 n V (fun g => G g ∧ g ≠ o) rel k (d + 1)) (D9 P1 P2 P3 rel n) r b := by
  have hC' : cu9 n V (fun g => G g ∧ g ≠ o) P1 P2 P3 rel := by
    refine ⟨⟨hC.1.1, fun s x hx => hC.1.2 s x (by omega)⟩, fun s hz g h h1 hne => ?_, fun g hg => hC.2.2.1 g hg.1, fun x hx => ?_⟩
    · have al := hk.1 s trivial (hz n (Nat.le_refl n))
      obtain ⟨q1, q2⟩ := hC.2.1 s (fun y hy => hz y (by omega)) g h h1 hne
      refine ⟨⟨q1, fun h9 => ?_⟩, q2, fun h9 => ?_⟩
      · rw [h9] at h1 hne
        exact hne (al h h1).symm
      · rw [h9] at h1 hne
        exact hne (al g ((hC.1.1 s).2.1 _ _ h1))
    · obtain ⟨a1, a2, a3⟩ := hC.2.2.2 x (by omega)
      obtain ⟨b1, b2, b3⟩ := hk.2.2.2.1 x (fun _ => false) hx trivial rfl
      exact ⟨⟨a1, b1⟩, ⟨a2, b2⟩, a3, b3⟩
  refine ⟨hC', ?_⟩
  obtain ⟨E2, N2, he2⟩ := fi_en (S := fun r γ => Sg9 (n + 1) V G rel k d r γ ∧ ¬ KA9 n o (fun _ => True) γ) (fun r => en_ex (n := n + 1) (V := V) (fun γ hγ => ⟨hγ.1.1, fun g hg => hγ.1.2.1 g (fun h9 => by
    have := hC.2.2.1 g h9
    omega)⟩))
  obtain ⟨hC2, hN2⟩ := quoA hp hi hC hk hb he2
  have hb2 : be9 p (fun r γ => Sg9 (n + 1) V G rel k d r γ ∧ ¬ KA9 n o (fun _ => True) γ) (fun γ => flt9 (KA9 n o (fun _ => True)) (D9 P1 P2 P3 rel (n + 1) γ)) r b := ⟨E2, N2, he2, hN2⟩
  obtain ⟨E', N', he'⟩ := fi_en (Sg_en (k := k) (d := d + 1) hC')
  refine ⟨E', N', he', ?_⟩
  have nK : ∀ γ : gn9, ¬ KA9 n o (fun _ => True) γ → γ.1 n = false ∧ γ.2 o = true := fun γ h => by
    refine ⟨ff_of (fun h9 => h ⟨trivial, Or.inl h9⟩), ?_⟩
    cases h9 : γ.2 o
    · exact absurd ⟨trivial, Or.inr h9⟩ h
    · rfl
  have on_ : ∀ s : Nat → Bool, s n = false → ons9 s (n + 1) = ons9 s n := fun s h => by
    rw [ons_s, h]
    rfl
  have deg : ∀ γ γ' : gn9, γ'.1 = γ.1 → (∀ g, g ≠ o → γ'.2 g = γ.2 g) → γ.1 n = false → γ.2 o = true → dg9 rel (fun g => G g ∧ g ≠ o) V n γ' = dg9 rel G V (n + 1) γ + 1 := fun γ γ' e1 e2 e3 e4 => by
    have al := hk.1 γ.1 trivial e3
    have L := (cls_o (Q := fun _ => True) hC.2.2.1 ho (hC.1.1 γ.1) al).1 trivial
    have M := (cls_o (Q := fun g => γ.2 g = true) hC.2.2.1 ho (hC.1.1 γ.1) al).1 e4
    have M2 : cls9 (rel γ.1) (fun g => G g ∧ g ≠ o) V (fun g => γ'.2 g = true) = cls9 (rel γ.1) (fun g => G g ∧ g ≠ o) V (fun g => γ.2 g = true) := cl_cg (fun g hg => by rw [e2 g hg.2])
    unfold dg9
    rw [e1, M2, L, M, on_ _ e3]
    omega
  refine isoT hp hi hC2 (cu_cg hC') (fun γ => (γ.1, clr9 γ.2 o)) (fun γ => (γ.1, stt9 γ.2 o true)) (fun _ => 1) (fun _ => rfl) (fun r γ hγ => ?_) (fun r γ hγ => ?_) (fun r γ hγ => ?_) r hb2 he'
  · obtain ⟨⟨z1, z2, z3, z4, z5⟩, zk⟩ := hγ
    obtain ⟨f1, f2⟩ := nK γ zk
    have al := hk.1 γ.1 trivial f1
    refine ⟨⟨fun y hy => ?_, fun g hg => ?_, fun g h h1 => ?_, ?_, ?_⟩, Prod.ext rfl (funext (fun g => ?_))⟩
    · by_cases e : y = n
      · rw [e]
        exact f1
      · exact z1 y (by omega)
    · show clr9 γ.2 o g = false
      by_cases e : g = o
      · rw [e, clr_o]
      · rw [clr_n e]
        exact z2 g (fun h9 => hg ⟨h9, e⟩)
    · show clr9 γ.2 o g = clr9 γ.2 o h
      have h1 : rel γ.1 g h := h1
      by_cases e : g = o
      · rw [e] at h1 ⊢
        rw [al h h1]
      · by_cases e2 : h = o
        · rw [e2] at h1
          exact absurd (al g ((hC.1.1 _).2.1 _ _ h1)) e
        · rw [clr_n e, clr_n e2]
          exact z3 g h h1
    · show ons9 γ.1 n + k = r
      rw [← on_ _ f1]
      exact z4
    · rw [← z5]
      exact deg γ (γ.1, clr9 γ.2 o) rfl (fun g hg => clr_n hg) f1 f2
    · show stt9 (clr9 γ.2 o) o true g = γ.2 g
      by_cases e : g = o
      · rw [e, st_o, f2]
      · rw [st_n e, clr_n e]
  · obtain ⟨z1, z2, z3, z4, z5⟩ := hγ
    have f1 := z1 n (Nat.le_refl n)
    have al := hk.1 γ.1 trivial f1
    refine ⟨⟨⟨fun y hy => z1 y (by omega), fun g hg => ?_, fun g h h1 => ?_, ?_, ?_⟩, fun h9 => ?_⟩, Prod.ext rfl (funext (fun g => ?_))⟩
    · show stt9 γ.2 o true g = false
      rw [st_n (show g ≠ o from fun h9 => hg (h9 ▸ ho))]
      exact z2 g (fun h9 => hg h9.1)
    · show stt9 γ.2 o true g = stt9 γ.2 o true h
      have h1 : rel γ.1 g h := h1
      by_cases e : g = o
      · rw [e] at h1 ⊢
        rw [al h h1]
      · by_cases e2 : h = o
        · rw [e2] at h1
          exact absurd (al g ((hC.1.1 _).2.1 _ _ h1)) e
        · rw [st_n e, st_n e2]
          exact z3 g h h1
    · show ons9 γ.1 (n + 1) + k = r
      rw [on_ _ f1]
      exact z4
    · have := deg (γ.1, stt9 γ.2 o true) γ rfl (fun g hg => (st_n hg).symm) f1 (st_o _ _ _)
      rw [z5] at this
      omega
    · rcases h9.2 with h8 | h8
      · have h8 : γ.1 n = true := h8
        rw [f1] at h8
        cases h8
      · have h8 : stt9 γ.2 o true o = false := h8
        rw [st_o] at h8
        cases h8
    · show clr9 (stt9 γ.2 o true) o g = γ.2 g
      by_cases e : g = o
      · rw [e, clr_o, z2 o (fun h9 => h9.2 rfl)]
      · rw [clr_n e, st_n e]
  · obtain ⟨⟨z1, z2, z3, z4, z5⟩, zk⟩ := hγ
    obtain ⟨f1, f2⟩ := nK γ zk
    have e0 : D9 P1 P2 P3 rel (n + 1) γ = D9 P1 P2 P3 rel n γ ++ scf9 (par9 γ.1 n) (Dx9 P1 P2 P3 rel n γ) := by
      show D9 P1 P2 P3 rel n γ ++ (if γ.1 n = true then [] else scf9 (par9 γ.1 n) (Dx9 P1 P2 P3 rel n γ)) = _
      rw [if_neg (by rw [f1]; decide)]
    have e1 : flt9 (KA9 n o (fun _ => True)) (D9 P1 P2 P3 rel (n + 1) γ) = D9 P1 P2 P3 rel n γ := by
      rw [e0]
      unfold flt9
      rw [List.filter_append]
      have q1 : (D9 P1 P2 P3 rel n γ).filter (fun q => !dcb (KA9 n o (fun _ => True) q.2)) = D9 P1 P2 P3 rel n γ := List.filter_eq_self.mpr (fun q hq => by
        obtain ⟨y, y1, y2, y3, c, y4⟩ := D_st hq
        rw [dcb_f.mpr (fun h9 => ?_)]
        · rfl
        · rcases h9.2 with h8 | h8
          · rw [y3, on_o (by omega), f1] at h8
            cases h8
          · rw [DxW_o hk trivial y1 y2 f1 y4, f2] at h8
            cases h8)
      have q2 : (scf9 (par9 γ.1 n) (Dx9 P1 P2 P3 rel n γ)).filter (fun q => !dcb (KA9 n o (fun _ => True) q.2)) = [] := List.filter_eq_nil_iff.mpr (fun q hq => by
        obtain ⟨t, t1, t2⟩ := List.mem_map.mp hq
        have := Dx_st t1
        rw [← t2]
        rw [dcb_t.mpr ⟨trivial, Or.inl (by rw [this, on_x])⟩]
        decide)
      rw [q1, q2, List.append_nil]
    have rhe : ∀ δ : gn9, δ.1 n = false → rh9 n o δ = (δ.1, clr9 δ.2 o) := fun δ h => Prod.ext (off_f h) rfl
    show eq9 (bd9 (fun δ => [(1, (δ.1, clr9 δ.2 o))]) (flt9 (KA9 n o (fun _ => True)) (D9 P1 P2 P3 rel (n + 1) γ))) (scf9 1 (D9 P1 P2 P3 rel n (γ.1, clr9 γ.2 o)))
    rw [e1, ← rhe γ f1, DW_rh hC.1 hk trivial (Nat.le_refl n)]
    refine bd_map (c := 1) (κ := rh9 n o) (fun q hq => ?_)
    obtain ⟨y, y1, y2, y3, -⟩ := D_st hq
    rw [rhe q.2 (by rw [y3, on_o (by omega)]; exact f1)]
theorem knB_s (hC : cub9 (n + 1) P1 P2 P3 rel) (hk : knB n o W P1 P2 P3 rel) {s : Nat → Bool} (hw : W s) (hs : s n = true) : P2 n ≠ o ∧ (∀ g h, rel (off9 s n) g h ↔ adr (rel s) o (P2 n) g h) ∧ rel (off9 s n) o (P3 n) := by
  have e := on_off hs
  have al := hk.1 s hw hs
  rcases hC.2 (off9 s n) n (by omega) off_x with ⟨h1, h2⟩ | ⟨h1, h2, h3⟩
  · rw [e, hk.2.1] at h2
    rw [hk.2.1] at h1
    have := al _ ((h2 o (P3 n)).mpr (adr_ab (hC.1 _)))
    rw [this] at h1
    exact absurd ((hC.1 _).1 o) h1
  · rw [e, hk.2.1] at h2 h3
    rw [hk.2.1] at h1
    exact ⟨fun h9 => h2 (by rw [h9]; exact (hC.1 _).1 o), h3, h1⟩
theorem knB_r (hC : cub9 (n + 1) P1 P2 P3 rel) (hk : knB n o W P1 P2 P3 rel) {s : Nat → Bool} (hw : W s) (hs : s n = true) {g h : Nat} (hg : g ≠ o) (hh : h ≠ o) : rel (off9 s n) g h ↔ rel s g h := by
  obtain ⟨-, h2, -⟩ := knB_s hC hk hw hs
  have al := hk.1 s hw hs
  rw [h2]
  constructor
  · rintro (h9 | ⟨h9, -⟩ | ⟨-, h9⟩)
    · exact h9
    · exact absurd (al g ((hC.1 _).2.1 _ _ h9)) hg
    · exact absurd (al h ((hC.1 _).2.1 _ _ h9)) hh
  · exact Or.inl
theorem knB_o (hC : cub9 (n + 1) P1 P2 P3 rel) (hk : knB n o W P1 P2 P3 rel) {s : Nat → Bool} (hw : W s) (hs : s n = true) {h : Nat} (hh : h ≠ o) : rel (off9 s n) o h ↔ rel s (P2 n) h := by
  obtain ⟨h1, h2, -⟩ := knB_s hC hk hw hs
  have al := hk.1 s hw hs
  rw [h2]
  constructor
  · rintro (h9 | ⟨-, h9⟩ | ⟨h9, -⟩)
    · exact absurd (al h h9) hh
    · exact (hC.1 _).2.1 _ _ h9
    · exact absurd (al _ h9) h1
  · intro h9
    exact Or.inr (Or.inl ⟨(hC.1 _).1 o, (hC.1 _).2.1 _ _ h9⟩)
theorem DxB_lo (hC : cub9 (n + 1) P1 P2 P3 rel) (hk : knB n o W P1 P2 P3 rel) (hw : W γ.1) (hn : γ.1 n = true) {y : Nat} (hy : y < n) (sy : γ.1 y = false) : Dx9 P1 P2 P3 rel y (lo9 n o (P2 n) γ) = (Dx9 P1 P2 P3 rel y γ).map (fun q => (q.1, lo9 n o (P2 n) q.2)) := by
  obtain ⟨p1, p2, p3⟩ := hk.2.2.1 y γ.1 hy hw sy
  have w2 := hk.2.2.2.1 γ.1 y (by omega) hw
  have n2 : (on9 γ.1 y) n = true := by rw [on_o (by omega)]; exact hn
  obtain ⟨q1, -, -⟩ := knB_s hC hk hw hn
  have a1 : (lo9 n o (P2 n) γ).2 (P1 y) = γ.2 (P1 y) := st_n p1
  have a3 : (lo9 n o (P2 n) γ).2 (P3 y) = γ.2 (P3 y) := st_n p3
  have st : on9 (lo9 n o (P2 n) γ).1 y = off9 (on9 γ.1 y) n := (off_on (by omega)).symm
  have r1 : dcb (rel (lo9 n o (P2 n) γ).1 (P1 y) (P3 y)) = dcb (rel γ.1 (P1 y) (P3 y)) := dcb_c (knB_r hC hk hw hn p1 p3)
  have bt : ∀ (b : Bool) (a : Nat), a ≠ o → (fun g => (lo9 n o (P2 n) γ).2 g || (b && dcb (rel (on9 (lo9 n o (P2 n) γ).1 y) g a))) = stt9 (fun g => γ.2 g || (b && dcb (rel (on9 γ.1 y) g a))) o (γ.2 (P2 n) || (b && dcb (rel (on9 γ.1 y) (P2 n) a))) := fun b a ha => funext (fun g => by
    rw [st]
    by_cases e : g = o
    · rw [e, st_o]
      show (stt9 γ.2 o (γ.2 (P2 n)) o || (b && dcb (rel (off9 (on9 γ.1 y) n) o a))) = _
      rw [st_o, dcb_c (knB_o hC hk w2 n2 ha)]
    · rw [st_n e]
      show (stt9 γ.2 o (γ.2 (P2 n)) g || (b && dcb (rel (off9 (on9 γ.1 y) n) g a))) = _
      rw [st_n e, dcb_c (knB_r hC hk w2 n2 e ha)])
  have bt1 : ∀ a : Nat, a ≠ o → (fun g => (lo9 n o (P2 n) γ).2 g || dcb (rel (on9 (lo9 n o (P2 n) γ).1 y) g a)) = stt9 (fun g => γ.2 g || dcb (rel (on9 γ.1 y) g a)) o (γ.2 (P2 n) || dcb (rel (on9 γ.1 y) (P2 n) a)) := fun a ha => by
    have := bt true a ha
    simp only [Bool.true_and] at this
    exact this
  unfold Dx9
  rw [r1, a1, a3]
  by_cases c : dcb (rel γ.1 (P1 y) (P3 y)) = true
  · rw [if_pos c, if_pos c]
    by_cases c2 : γ.2 (P1 y) = true
    · rw [if_pos c2, if_pos c2, st]
      rfl
    · rw [if_neg c2, if_neg c2, bt1 _ p1, bt1 _ p2, st]
      rfl
  · rw [if_neg c, if_neg c]
    by_cases c2 : γ.2 (P1 y) = true ∧ γ.2 (P3 y) = true
    · rw [if_pos c2, if_pos c2]
      rfl
    · rw [if_neg c2, if_neg c2, bt _ _ p1, st]
      rfl
theorem DB_lo (hC : cub9 (n + 1) P1 P2 P3 rel) (hk : knB n o W P1 P2 P3 rel) (hw : W γ.1) (hn : γ.1 n = true) : ∀ {k : Nat}, k ≤ n → D9 P1 P2 P3 rel k (lo9 n o (P2 n) γ) = (D9 P1 P2 P3 rel k γ).map (fun q => (q.1, lo9 n o (P2 n) q.2))
  | 0, _ => rfl
  | k + 1, h => by
    show D9 P1 P2 P3 rel k (lo9 n o (P2 n) γ) ++ (if (lo9 n o (P2 n) γ).1 k = true then [] else scf9 (par9 (lo9 n o (P2 n) γ).1 k) (Dx9 P1 P2 P3 rel k (lo9 n o (P2 n) γ))) = (D9 P1 P2 P3 rel k γ ++ (if γ.1 k = true then [] else scf9 (par9 γ.1 k) (Dx9 P1 P2 P3 rel k γ))).map _
    have e1 : (lo9 n o (P2 n) γ).1 k = γ.1 k := off_o (by omega)
    have e2 : par9 (lo9 n o (P2 n) γ).1 k = par9 γ.1 k := par_off (by omega)
    rw [List.map_append, DB_lo hC hk hw hn (by omega), e1, e2]
    refine congrArg _ ?_
    by_cases c : γ.1 k = true
    · rw [if_pos c, if_pos c]
      rfl
    · rw [if_neg c, if_neg c, DxB_lo hC hk hw hn (by omega) (ff_of c)]
      unfold scf9
      rw [List.map_map, List.map_map]
      rfl
theorem DxB_o (hk : knB n o W P1 P2 P3 rel) (hw : W γ.1) (hn : γ.1 n = true) {y : Nat} (hy : y < n) (sy : γ.1 y = false) {q : Int × gn9} (h : q ∈ Dx9 P1 P2 P3 rel y γ) : q.2.2 o = γ.2 o := by
  obtain ⟨p1, p2, p3⟩ := hk.2.2.1 y γ.1 hy hw sy
  have w2 := hk.2.2.2.1 γ.1 y (by omega) hw
  have n2 : (on9 γ.1 y) n = true := by rw [on_o (by omega)]; exact hn
  have no : ∀ a, a ≠ o → dcb (rel (on9 γ.1 y) o a) = false := fun a ha => dcb_f.mpr (fun h9 => ha (hk.1 _ w2 n2 a h9))
  unfold Dx9 at h
  split at h
  · split at h
    · rw [List.mem_singleton.mp h]
    · rcases List.mem_cons.mp h with e | e
      · rw [e]
        show (γ.2 o || dcb (rel (on9 γ.1 y) o (P1 y))) = γ.2 o
        rw [no _ p1, Bool.or_false]
      · rw [List.mem_singleton.mp e]
        show (γ.2 o || dcb (rel (on9 γ.1 y) o (P2 y))) = γ.2 o
        rw [no _ p2, Bool.or_false]
  · split at h
    · exact absurd h List.not_mem_nil
    · rw [List.mem_singleton.mp h]
      show (γ.2 o || ((γ.2 (P1 y) || γ.2 (P3 y)) && dcb (rel (on9 γ.1 y) o (P1 y)))) = γ.2 o
      rw [no _ p1, Bool.and_false, Bool.or_false]
/-- the turned crossing of what lies below -/
theorem DnB (hC : cub9 (n + 1) P1 P2 P3 rel) (hk : knB n o W P1 P2 P3 rel) (hw : W γ.1) (hn : γ.1 n = true) (hm : γ.2 o = true) : (1, γ) ∈ Dx9 P1 P2 P3 rel n (lo9 n o (P2 n) γ) ∧ ∀ δ : gn9, (δ.1 n = true → δ.2 o = true) → cf9 (Dx9 P1 P2 P3 rel n (lo9 n o (P2 n) γ)) δ = id9 δ γ := by
  have e := on_off hn
  obtain ⟨q1, q2, q3⟩ := knB_s hC hk hw hn
  have al := hk.1 γ.1 hw hn
  have q : Dx9 P1 P2 P3 rel n (lo9 n o (P2 n) γ) = (if stt9 γ.2 o (γ.2 (P2 n)) (P1 n) = true then [(1, (on9 (off9 γ.1 n) n, stt9 γ.2 o (γ.2 (P2 n))))] else [(1, (on9 (off9 γ.1 n) n, fun g => stt9 γ.2 o (γ.2 (P2 n)) g || dcb (rel (on9 (off9 γ.1 n) n) g (P1 n)))), (1, (on9 (off9 γ.1 n) n, fun g => stt9 γ.2 o (γ.2 (P2 n)) g || dcb (rel (on9 (off9 γ.1 n) n) g (P2 n))))]) := if_pos (dcb_t.mpr (by rw [hk.2.1]; exact q3))
  rw [q, e, hk.2.1, st_o]
  by_cases c : γ.2 (P2 n) = true
  · rw [if_pos c, c]
    have r : stt9 γ.2 o true = γ.2 := funext (fun g => by
      by_cases eg : g = o
      · rw [eg, st_o, hm]
      · rw [st_n eg])
    rw [r]
    refine ⟨List.mem_singleton.mpr rfl, fun δ _ => ?_⟩
    rw [cf_1, Int.one_mul]
  · rw [if_neg c]
    have r : (fun g => stt9 γ.2 o (γ.2 (P2 n)) g || dcb (rel γ.1 g o)) = γ.2 := funext (fun g => by
      by_cases eg : g = o
      · rw [eg, dcb_t.mpr ((hC.1 _).1 o), Bool.or_true, hm]
      · rw [st_n eg, dcb_f.mpr (fun h9 => eg (al g ((hC.1 _).2.1 _ _ h9))), Bool.or_false])
    rw [r]
    refine ⟨List.mem_cons_self, fun δ hδ => ?_⟩
    have ne : ((γ.1, fun g => stt9 γ.2 o (γ.2 (P2 n)) g || dcb (rel γ.1 g (P2 n))) : gn9) ≠ δ := fun h9 => by
      have h1 : δ.1 n = true := by rw [← h9]; exact hn
      have h2 := hδ h1
      rw [← h9] at h2
      have h2 : (stt9 γ.2 o (γ.2 (P2 n)) o || dcb (rel γ.1 o (P2 n))) = true := h2
      rw [st_o, ff_of c, dcb_f.mpr (fun h8 => q1 (al _ h8))] at h2
      cases h2
    show 1 * id9 δ γ + (1 * id9 δ (γ.1, fun g => stt9 γ.2 o (γ.2 (P2 n)) g || dcb (rel γ.1 g (P2 n))) + 0) = id9 δ γ
    rw [id_n ne]
    omega
theorem hB_1 (hC : cub9 (n + 1) P1 P2 P3 rel) (hk : knB n o W P1 P2 P3 rel) (hw : W γ.1) (hv : vl9 rel γ) (hg : γ.1 n = true → γ.2 o = true) (hd : δ.1 n = true → δ.2 o = true) : cf9 (bd9 (D9 P1 P2 P3 rel (n + 1)) (hB9 n o (P2 n) γ) ++ bd9 (hB9 n o (P2 n)) (D9 P1 P2 P3 rel (n + 1) γ)) δ = id9 δ γ := by
  have stn : ∀ q, q ∈ D9 P1 P2 P3 rel n γ → q.2.1 n = γ.1 n := fun q hq => by
    obtain ⟨y, h1, -, h2, -⟩ := D_st hq
    rw [h2]
    exact on_o (by omega)
  have e0 : ∀ δ, D9 P1 P2 P3 rel (n + 1) δ = D9 P1 P2 P3 rel n δ ++ (if δ.1 n = true then [] else scf9 (par9 δ.1 n) (Dx9 P1 P2 P3 rel n δ)) := fun _ => rfl
  by_cases c : γ.1 n = true
  · have hm := hg c
    have e1 : hB9 n o (P2 n) γ = [(par9 γ.1 n, lo9 n o (P2 n) γ)] := if_pos ⟨c, hm⟩
    have of0 : (lo9 n o (P2 n) γ).1 n = false := off_x
    have e2 : bd9 (D9 P1 P2 P3 rel (n + 1)) [(par9 γ.1 n, lo9 n o (P2 n) γ)] = scf9 (par9 γ.1 n) (D9 P1 P2 P3 rel (n + 1) (lo9 n o (P2 n) γ)) ++ [] := rfl
    have e4 : D9 P1 P2 P3 rel (n + 1) γ = D9 P1 P2 P3 rel n γ := by
      rw [e0, if_pos c, List.append_nil]
    have e3 : eq9 (bd9 (hB9 n o (P2 n)) (D9 P1 P2 P3 rel n γ)) (scf9 (-par9 γ.1 n) (D9 P1 P2 P3 rel n (lo9 n o (P2 n) γ))) := by
      rw [DB_lo hC hk hw c (Nat.le_refl n)]
      refine bd_map (c := -par9 γ.1 n) (κ := lo9 n o (P2 n)) (fun q hq => ?_)
      obtain ⟨y, h2, h3, h4, w, h5⟩ := D_st hq
      have h1 : hB9 n o (P2 n) q.2 = [(par9 q.2.1 n, lo9 n o (P2 n) q.2)] := if_pos ⟨(stn q hq).trans c, (DxB_o hk hw c h2 h3 h5).trans hm⟩
      rw [h1, h4, par_hi h3 h2]
    rw [e1, e2, e4, List.append_nil, cf_a, e3 δ, cf_sc, cf_sc, e0, cf_a, if_neg (by rw [of0]; decide), cf_sc, (DnB hC hk hw c hm).2 δ hd]
    have pe : par9 (lo9 n o (P2 n) γ).1 n = par9 γ.1 n := par_off (Nat.le_refl n)
    rw [pe, Int.mul_add, ← Int.mul_assoc, par_2, Int.neg_mul, Int.one_mul]
    omega
  · have cf := ff_of c
    have e1 : hB9 n o (P2 n) γ = [] := if_neg (fun h9 => c h9.1)
    have e2 : bd9 (D9 P1 P2 P3 rel (n + 1)) [] = [] := rfl
    rw [e1, e2, List.nil_append, e0, if_neg c]
    have z1 : eq9 (bd9 (hB9 n o (P2 n)) (D9 P1 P2 P3 rel n γ)) [] := bd_nil (fun q hq => if_neg (fun h9 => c ((stn q hq).symm.trans h9.1)))
    refine (bd_a rfl δ).trans ?_
    rw [cf_a, z1 δ]
    -- the state with n turned
    have w2 := hk.2.2.2.1 γ.1 n (Nat.le_refl n) hw
    have of_ : off9 (on9 γ.1 n) n = γ.1 := off_on2 cf
    obtain ⟨q1, q2, q3⟩ := knB_s hC hk w2 on_x
    rw [of_] at q2 q3
    have al := hk.1 _ w2 on_x
    have op : γ.2 o = γ.2 (P2 n) := hv _ _ ((q2 _ _).mpr (adr_ab (hC.1 _)))
    have q : Dx9 P1 P2 P3 rel n γ = (if γ.2 (P1 n) = true then [(1, (on9 γ.1 n, γ.2))] else [(1, (on9 γ.1 n, fun g => γ.2 g || dcb (rel (on9 γ.1 n) g (P1 n)))), (1, (on9 γ.1 n, fun g => γ.2 g || dcb (rel (on9 γ.1 n) g (P2 n))))]) := if_pos (dcb_t.mpr (by rw [hk.2.1]; exact q3))
    rw [q, hk.2.1]
    have pn : par9 (on9 γ.1 n) n = par9 γ.1 n := par_lo (Nat.le_refl n)
    by_cases c2 : γ.2 o = true
    · rw [if_pos c2]
      have hh : hB9 n o (P2 n) (on9 γ.1 n, γ.2) = [(par9 (on9 γ.1 n) n, γ)] := by
        refine (if_pos ⟨on_x, c2⟩).trans ?_
        have r : lo9 n o (P2 n) (on9 γ.1 n, γ.2) = γ := Prod.ext of_ (funext (fun g => by
          show stt9 γ.2 o (γ.2 (P2 n)) g = γ.2 g
          by_cases eg : g = o
          · rw [eg, st_o, op]
          · rw [st_n eg]))
        rw [r]
      rw [cf_bd]
      show 0 + (par9 γ.1 n * 1 * cf9 (hB9 n o (P2 n) (on9 γ.1 n, γ.2)) δ + 0) = id9 δ γ
      rw [hh, cf_1, pn, Int.mul_one, ← Int.mul_assoc, par_2]
      omega
    · rw [if_neg c2]
      have h1 : hB9 n o (P2 n) (on9 γ.1 n, fun g => γ.2 g || dcb (rel (on9 γ.1 n) g o)) = [(par9 (on9 γ.1 n) n, γ)] := by
        refine (if_pos ⟨on_x, by show (γ.2 o || dcb (rel (on9 γ.1 n) o o)) = true; rw [dcb_t.mpr ((hC.1 _).1 o), Bool.or_true]⟩).trans ?_
        have r : lo9 n o (P2 n) (on9 γ.1 n, fun g => γ.2 g || dcb (rel (on9 γ.1 n) g o)) = γ := Prod.ext of_ (funext (fun g => by
          show stt9 (fun g => γ.2 g || dcb (rel (on9 γ.1 n) g o)) o (γ.2 (P2 n) || dcb (rel (on9 γ.1 n) (P2 n) o)) g = γ.2 g
          have no : ∀ a, a ≠ o → dcb (rel (on9 γ.1 n) a o) = false := fun a ha => dcb_f.mpr (fun h9 => ha (al a ((hC.1 _).2.1 _ _ h9)))
          by_cases eg : g = o
          · rw [eg, st_o, no _ q1, Bool.or_false, op]
          · rw [st_n eg, no g eg, Bool.or_false]))
        rw [r]
      have h2 : hB9 n o (P2 n) (on9 γ.1 n, fun g => γ.2 g || dcb (rel (on9 γ.1 n) g (P2 n))) = [] := if_neg (fun h9 => by
        have h9 : (γ.2 o || dcb (rel (on9 γ.1 n) o (P2 n))) = true := h9.2
        rw [ff_of c2, dcb_f.mpr (fun h8 => q1 (al _ h8))] at h9
        cases h9)
      rw [cf_bd]
      show 0 + (par9 γ.1 n * 1 * cf9 (hB9 n o (P2 n) (on9 γ.1 n, fun g => γ.2 g || dcb (rel (on9 γ.1 n) g o))) δ + (par9 γ.1 n * 1 * cf9 (hB9 n o (P2 n) (on9 γ.1 n, fun g => γ.2 g || dcb (rel (on9 γ.1 n) g (P2 n)))) δ + 0)) = id9 δ γ
      rw [h1, h2, cf_1, pn, Int.mul_one, ← Int.mul_assoc, par_2]
      show 0 + (1 * id9 δ γ + (par9 γ.1 n * 0 + 0)) = id9 δ γ
      rw [Int.mul_zero]
      omega
/-- what lies below is a generator -/
theorem lo_ok {r : Nat} (hC : cu9 (n + 1) V G P1 P2 P3 rel) (ho : G o) (hk : knB n o W P1 P2 P3 rel) (hw : W γ.1) (hγ : Sg9 (n + 1) V G rel k d (r + 1) γ) (hn : γ.1 n = true) (hm : γ.2 o = true) : Sg9 (n + 1) V G rel k d r (lo9 n o (P2 n) γ) := by
  obtain ⟨z1, z2, z3, z4, z5⟩ := hγ
  obtain ⟨q1, q2, q3⟩ := knB_s hC.1 hk hw hn
  have of0 : (lo9 n o (P2 n) γ).1 n = false := off_x
  have a1 : ∀ y, n + 1 ≤ y → (lo9 n o (P2 n) γ).1 y = false := fun y hy => by
    show off9 γ.1 n y = false
    rw [off_o (by omega)]
    exact z1 y hy
  have a2 : ∀ g, ¬ G g → (lo9 n o (P2 n) γ).2 g = false := fun g hg => by
    show stt9 γ.2 o (γ.2 (P2 n)) g = false
    rw [st_n (show g ≠ o from fun h9 => hg (h9 ▸ ho))]
    exact z2 g hg
  have a3 : vl9 rel (lo9 n o (P2 n) γ) := fun g h h1 => by
    have h1 : rel (off9 γ.1 n) g h := h1
    show stt9 γ.2 o (γ.2 (P2 n)) g = stt9 γ.2 o (γ.2 (P2 n)) h
    by_cases e9 : g = o
    · rw [e9] at h1 ⊢
      by_cases e8 : h = o
      · rw [e8]
      · rw [st_o, st_n e8]
        exact z3 _ _ ((knB_o hC.1 hk hw hn e8).mp h1)
    · by_cases e8 : h = o
      · rw [e8] at h1 ⊢
        rw [st_o, st_n e9]
        exact (z3 _ _ ((knB_o hC.1 hk hw hn e9).mp ((hC.1.1 _).2.1 _ _ h1))).symm
      · rw [st_n e9, st_n e8]
        exact z3 g h ((knB_r hC.1 hk hw hn e9 e8).mp h1)
  have q := Dx_ok (c := 1) (δ := γ) (k := k) (d := dg9 rel G V (n + 1) (lo9 n o (P2 n) γ)) (r := ons9 (lo9 n o (P2 n) γ).1 (n + 1) + k) (x := n) hC (by omega) ⟨a1, a2, a3, rfl, rfl⟩ of0 (DnB hC.1 hk hw hn hm).1
  have q4 := q.2.2.2.1
  have q5 := q.2.2.2.2
  exact ⟨a1, a2, a3, by omega, by rw [← q5]; exact z5⟩
end XCHO
