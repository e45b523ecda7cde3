-- CHAIN: two groups side by side; a circle more
section XCHQ
variable {p : Int} {n1 n2 m1 m2 : Nat} {d e1 e2 : Nat → vc9} {b1 b2 : Int} {S : Nat → gn9 → Prop} {D : gn9 → fc9} {C : gn9 → Prop}
theorem ap_sN {v : vc9} (j : Nat) : ∀ {n : Nat}, ap9 d n v j = sN9 (fun i => v i * d i j) n
  | 0 => rfl
  | n + 1 => by
    show ap9 d n v j + v n * d n j = sN9 (fun i => v i * d i j) n + v n * d n j
    rw [ap_sN (n := n)]
theorem sN_sp {f : Nat → Int} (a : Nat) : ∀ b, sN9 f (a + b) = sN9 f a + sN9 (fun i => f (a + i)) b
  | 0 => by
    show sN9 f a = sN9 f a + 0
    omega
  | b + 1 => by
    show sN9 f (a + b) + f (a + b) = sN9 f a + (sN9 (fun i => f (a + i)) b + f (a + b))
    rw [sN_sp a b]
    omega
/-- rows in two blocks -/
def blk9 (n1 n2 m1 m2 : Nat) (d e1 e2 : Nat → vc9) : Prop := (∀ i, i < n1 → (∀ j, j < m1 → d i j = e1 i j) ∧ ∀ j, j < m2 → d i (m1 + j) = 0) ∧ ∀ i, i < n2 → (∀ j, j < m1 → d (n1 + i) j = 0) ∧ ∀ j, j < m2 → d (n1 + i) (m1 + j) = e2 i j
theorem blk_rk (h : blk9 n1 n2 m1 m2 d e1 e2) : rk9 p (m1 + m2) (rwl9 d (n1 + n2)) = rk9 p m1 (rwl9 e1 n1) + rk9 p m2 (rwl9 e2 n2) := by
  have a1 : ∀ i, i ≤ n1 → rk9 p (m1 + m2) (rwl9 d i) = rk9 p m1 (rwl9 e1 i) := fun i => by
    induction i with
    | zero => intro _; rfl
    | succ i ih =>
      intro hi
      have ih := ih (by omega)
      have q : sp9 p (m1 + m2) (rwl9 d i) (d i) ↔ sp9 p m1 (rwl9 e1 i) (e1 i) := by
        rw [sp_ap, sp_ap]
        constructor
        · rintro ⟨v, hv⟩
          refine ⟨v, fun j hj => ?_⟩
          have := hv j (by omega)
          rw [ap_sN, (h.1 i (by omega)).1 j hj] at this
          rw [ap_sN, ← sN_cg (f := fun t => v t * d t j) (fun t ht => by rw [(h.1 t (by omega)).1 j hj])]
          exact this
        · rintro ⟨v, hv⟩
          refine ⟨v, fun j hj => ?_⟩
          rcases Nat.lt_or_ge j m1 with hj1 | hj1
          · have := hv j hj1
            rw [ap_sN] at this
            rw [ap_sN, (h.1 i (by omega)).1 j hj1, sN_cg (g := fun t => v t * e1 t j) (fun t ht => by rw [(h.1 t (by omega)).1 j hj1])]
            exact this
          · have ej : j = m1 + (j - m1) := by omega
            rw [ap_sN, ej, (h.1 i (by omega)).2 (j - m1) (by omega), sN_cg (g := fun _ => 0) (fun t ht => by rw [(h.1 t (by omega)).2 (j - m1) (by omega), Int.mul_zero]), sN_0]
            exact Int.dvd_zero p
      show rk9 p (m1 + m2) (d i :: rwl9 d i) = rk9 p m1 (e1 i :: rwl9 e1 i)
      by_cases c : sp9 p m1 (rwl9 e1 i) (e1 i)
      · rw [rk_y c, rk_y (q.mpr c), ih]
      · rw [rk_n c, rk_n (fun h9 => c (q.mp h9)), ih]
  have a2 : ∀ i, i ≤ n2 → rk9 p (m1 + m2) (rwl9 d (n1 + i)) = rk9 p m1 (rwl9 e1 n1) + rk9 p m2 (rwl9 e2 i) := fun i => by
    induction i with
    | zero => intro _; exact a1 n1 (Nat.le_refl n1)
    | succ i ih =>
      intro hi
      have ih := ih (by omega)
      have lo : ∀ (v : vc9) j, j < m2 → sN9 (fun t => v t * d t (m1 + j)) (n1 + i) = sN9 (fun t => v (n1 + t) * e2 t j) i := fun v j hj => by
        rw [sN_sp, sN_cg (f := fun t => v t * d t (m1 + j)) (g := fun _ => 0) (fun t ht => by rw [(h.1 t ht).2 j hj, Int.mul_zero]), sN_0, Int.zero_add]
        exact sN_cg (fun t ht => by rw [(h.2 t (by omega)).2 j hj])
      have q : sp9 p (m1 + m2) (rwl9 d (n1 + i)) (d (n1 + i)) ↔ sp9 p m2 (rwl9 e2 i) (e2 i) := by
        rw [sp_ap, sp_ap]
        constructor
        · rintro ⟨v, hv⟩
          refine ⟨fun t => v (n1 + t), fun j hj => ?_⟩
          have := hv (m1 + j) (by omega)
          rw [ap_sN, (h.2 i (by omega)).2 j hj, lo v j hj] at this
          rw [ap_sN]
          exact this
        · rintro ⟨v, hv⟩
          refine ⟨fun t => if t < n1 then 0 else v (t - n1), fun j hj => ?_⟩
          rcases Nat.lt_or_ge j m1 with hj1 | hj1
          · rw [ap_sN, (h.2 i (by omega)).1 j hj1, sN_cg (g := fun _ => 0) (fun t ht => ?_), sN_0]
            · exact Int.dvd_zero p
            · show (if t < n1 then 0 else v (t - n1)) * d t j = 0
              rcases Nat.lt_or_ge t n1 with ht1 | ht1
              · rw [if_pos ht1, Int.zero_mul]
              · have et : t = n1 + (t - n1) := by omega
                rw [et, (h.2 (t - n1) (by omega)).1 j hj1, Int.mul_zero]
          · have ej : j = m1 + (j - m1) := by omega
            have := hv (j - m1) (by omega)
            rw [ap_sN] at this
            rw [ap_sN, ej, (h.2 i (by omega)).2 (j - m1) (by omega), lo _ (j - m1) (by omega)]
            have e3 : sN9 (fun t => (if n1 + t < n1 then 0 else v (n1 + t - n1)) * e2 t (j - m1)) i = sN9 (fun t => v t * e2 t (j - m1)) i := sN_cg (fun t _ => by
              rw [if_neg (by omega), show n1 + t - n1 = t by omega])
            rw [e3]
            exact this
      show rk9 p (m1 + m2) (d (n1 + i) :: rwl9 d (n1 + i)) = rk9 p m1 (rwl9 e1 n1) + rk9 p m2 (e2 i :: rwl9 e2 i)
      by_cases c : sp9 p m2 (rwl9 e2 i) (e2 i)
      · rw [rk_y c, rk_y (q.mpr c), ih]
      · rw [rk_n c, rk_n (fun h9 => c (q.mp h9)), ih]
        omega
  exact a2 n2 (Nat.le_refl n2)
/-- one list behind the other -/
def cat9 (E1 : Nat → Nat → gn9) (N1 : Nat → Nat) (E2 : Nat → Nat → gn9) (r i : Nat) : gn9 := if i < N1 r then E1 r i else E2 r (i - N1 r)
/-- two groups side by side -/
theorem dirT {r : Nat} (k1 : ∀ r γ, S r γ → C γ → su9 (D γ) C) (k2 : ∀ r γ, S r γ → ¬ C γ → su9 (D γ) (fun δ => ¬ C δ)) (h1 : be9 p (fun r γ => S r γ ∧ C γ) D r b1) (h2 : be9 p (fun r γ => S r γ ∧ ¬ C γ) D r b2) : be9 p S D r (b1 + b2) := by
  obtain ⟨E1, N1, he1, hN1⟩ := h1
  obtain ⟨E2, N2, he2, hN2⟩ := h2
  have lo : ∀ r i, i < N1 r → cat9 E1 N1 E2 r i = E1 r i := fun r i hi => if_pos hi
  have hi : ∀ r i, cat9 E1 N1 E2 r (N1 r + i) = E2 r i := fun r i => by
    show (if N1 r + i < N1 r then E1 r (N1 r + i) else E2 r (N1 r + i - N1 r)) = E2 r i
    rw [if_neg (by omega), show N1 r + i - N1 r = i by omega]
  have en : ∀ r, en9 (S r) (cat9 E1 N1 E2 r) (N1 r + N2 r) := fun r => by
    refine ⟨fun i j h3 h4 h5 => ?_, fun γ => ⟨fun h => ?_, fun ⟨i, h3, h4⟩ => ?_⟩⟩
    · rcases Nat.lt_or_ge i (N1 r) with ci | ci
      · rcases Nat.lt_or_ge j (N1 r) with cj | cj
        · rw [lo r i ci, lo r j cj] at h5
          exact (he1 r).1 i j ci cj h5
        · rw [lo r i ci, show j = N1 r + (j - N1 r) by omega, hi] at h5
          have a := (en_at (he1 r) ci).2
          rw [h5] at a
          exact absurd a (en_at (he2 r) (i := j - N1 r) (by omega)).2
      · rcases Nat.lt_or_ge j (N1 r) with cj | cj
        · rw [lo r j cj, show i = N1 r + (i - N1 r) by omega, hi] at h5
          have a := (en_at (he1 r) cj).2
          rw [← h5] at a
          exact absurd a (en_at (he2 r) (i := i - N1 r) (by omega)).2
        · rw [show j = N1 r + (j - N1 r) by omega, show i = N1 r + (i - N1 r) by omega, hi, hi] at h5
          have := (he2 r).1 _ _ (by omega) (by omega) h5
          omega
    · by_cases c : C γ
      · obtain ⟨i, i1, i2⟩ := ((he1 r).2 γ).mp ⟨h, c⟩
        exact ⟨i, by omega, by rw [lo r i i1, i2]⟩
      · obtain ⟨i, i1, i2⟩ := ((he2 r).2 γ).mp ⟨h, c⟩
        exact ⟨N1 r + i, by omega, by rw [hi, i2]⟩
    · rcases Nat.lt_or_ge i (N1 r) with ci | ci
      · rw [lo r i ci] at h4
        rw [h4]
        exact (en_at (he1 r) ci).1
      · rw [show i = N1 r + (i - N1 r) by omega, hi] at h4
        rw [h4]
        exact (en_at (he2 r) (i := i - N1 r) (by omega)).1
  refine ⟨cat9 E1 N1 E2, fun r => N1 r + N2 r, en, ?_⟩
  have rk : ∀ r, rn9 p (cat9 E1 N1 E2) (fun r => N1 r + N2 r) D r = rn9 p E1 N1 D r + rn9 p E2 N2 D r := fun r => by
    unfold rn9
    refine blk_rk ⟨fun i hi9 => ⟨fun j hj => ?_, fun j hj => ?_⟩, fun i hi9 => ⟨fun j hj => ?_, fun j hj => ?_⟩⟩
    · show cf9 (D (cat9 E1 N1 E2 r i)) (cat9 E1 N1 E2 (r + 1) j) = _
      rw [lo r i hi9, lo (r + 1) j hj]
      rfl
    · show cf9 (D (cat9 E1 N1 E2 r i)) (cat9 E1 N1 E2 (r + 1) (N1 (r + 1) + j)) = _
      rw [lo r i hi9, hi (r + 1) j]
      by_cases c : cf9 (D (E1 r i)) (E2 (r + 1) j) = 0
      · exact c
      · obtain ⟨q1, q2⟩ := en_at (he1 r) hi9
        exact absurd (k1 r _ q1 q2 _ c) (en_at (he2 (r + 1)) hj).2
    · show cf9 (D (cat9 E1 N1 E2 r (N1 r + i))) (cat9 E1 N1 E2 (r + 1) j) = _
      rw [hi r i, lo (r + 1) j hj]
      by_cases c : cf9 (D (E2 r i)) (E1 (r + 1) j) = 0
      · exact c
      · obtain ⟨q1, q2⟩ := en_at (he2 r) hi9
        exact absurd (en_at (he1 (r + 1)) hj).2 (k2 r _ q1 q2 _ c)
    · show cf9 (D (cat9 E1 N1 E2 r (N1 r + i))) (cat9 E1 N1 E2 (r + 1) (N1 (r + 1) + j)) = _
      rw [hi r i, hi (r + 1) j]
      rfl
  rw [rk, rk]
  show ((N1 (r + 1) + N2 (r + 1) : Nat) : Int) = _
  omega
end XCHQ
section XCHR
variable {n o V k r : Nat} {G : Nat → Prop} {P1 P2 P3 : Nat → Nat} {rel : (Nat → Bool) → Nat → Nat → Prop} {d p b1 b2 : Int}
theorem D9_o {γ : gn9} (hal : ∀ s, (∀ y, n ≤ y → s y = false) → ∀ g, rel s o g → g = o) (hP : ∀ x, x < n → P1 x ≠ o ∧ P2 x ≠ o ∧ P3 x ≠ o) (z1 : ∀ y, n ≤ y → γ.1 y = false) {q : Int × gn9} (h : q ∈ D9 P1 P2 P3 rel n γ) : q.2.2 o = γ.2 o := by
  obtain ⟨y, y1, y2, y3, c, y4⟩ := D_st h
  obtain ⟨p1, p2, p3⟩ := hP y y1
  have no : ∀ a, a ≠ o → dcb (rel (on9 γ.1 y) o a) = false := fun a ha => dcb_f.mpr (fun h9 => ha (hal _ (on_z y1 z1) a h9))
  generalize e : (c, q.2) = t at y4
  have e2 : q.2.2 o = t.2.2 o := by rw [← e]
  rw [e2]
  unfold Dx9 at y4
  split at y4
  · split at y4
    · rw [List.mem_singleton.mp y4]
    · rcases List.mem_cons.mp y4 with e | e
      · rw [e]
        show (γ.2 o || dcb (rel (on9 γ.1 y) o (P1 y))) = γ.2 o
        rw [no _ p1, Bool.or_false]
      · rw [List.mem_singleton.mp e]
        show (γ.2 o || dcb (rel (on9 γ.1 y) o (P2 y))) = γ.2 o
        rw [no _ p2, Bool.or_false]
  · split at y4
    · exact absurd y4 List.not_mem_nil
    · rw [List.mem_singleton.mp y4]
      show (γ.2 o || ((γ.2 (P1 y) || γ.2 (P3 y)) && dcb (rel (on9 γ.1 y) o (P1 y)))) = γ.2 o
      rw [no _ p1, Bool.and_false, Bool.or_false]
/-- a circle more -/
theorem be_cir (hp : pr9 p) (hi : iv9 p) (hC : cu9 n V G P1 P2 P3 rel) (ho : G o) (hal : ∀ s, (∀ y, n ≤ y → s y = false) → ∀ g, rel s o g → g = o) (hP : ∀ x, x < n → P1 x ≠ o ∧ P2 x ≠ o ∧ P3 x ≠ o) (h1 : be9 p (Sg9 n V (fun g => G g ∧ g ≠ o) rel k (d - 1)) (D9 P1 P2 P3 rel n) r b1) (h2 : be9 p (Sg9 n V (fun g => G g ∧ g ≠ o) rel k (d + 1)) (D9 P1 P2 P3 rel n) r b2) : cu9 n V (fun g => G g ∧ g ≠ o) P1 P2 P3 rel ∧ be9 p (Sg9 n V G rel k d) (D9 P1 P2 P3 rel n) r (b1 + b2) := by
  have hC' : cu9 n V (fun g => G g ∧ g ≠ o) P1 P2 P3 rel := by
    refine ⟨hC.1, fun s hz g h h1 hne => ?_, fun g hg => hC.2.2.1 g hg.1, fun x hx => ?_⟩
    · obtain ⟨q1, q2⟩ := hC.2.1 s hz g h h1 hne
      refine ⟨⟨q1, fun h9 => ?_⟩, q2, fun h9 => ?_⟩
      · rw [h9] at h1 hne
        exact hne (hal s hz h h1).symm
      · rw [h9] at h1 hne
        exact hne (hal s hz g ((hC.1.1 s).2.1 _ _ h1))
    · obtain ⟨a1, a2, a3⟩ := hC.2.2.2 x hx
      obtain ⟨b1, b2, b3⟩ := hP x hx
      exact ⟨⟨a1, b1⟩, ⟨a2, b2⟩, a3, b3⟩
  refine ⟨hC', ?_⟩
  have deg : ∀ γ : gn9, (∀ y, n ≤ y → γ.1 y = false) → (γ.2 o = false → dg9 rel G V n γ = dg9 rel (fun g => G g ∧ g ≠ o) V n γ + 1) ∧ (γ.2 o = true → dg9 rel G V n γ = dg9 rel (fun g => G g ∧ g ≠ o) V n (γ.1, clr9 γ.2 o) - 1) := fun γ z1 => by
    have al := hal γ.1 z1
    have L := (cls_o (Q := fun _ => True) hC.2.2.1 ho (hC.1.1 γ.1) al).1 trivial
    have M := cls_o (Q := fun g => γ.2 g = true) hC.2.2.1 ho (hC.1.1 γ.1) al
    constructor
    · intro h
      have M2 := M.2 (by rw [h]; decide)
      unfold dg9
      rw [L, M2]
      omega
    · intro h
      have M2 := M.1 h
      have M3 : cls9 (rel γ.1) (fun g => G g ∧ g ≠ o) V (fun g => clr9 γ.2 o g = true) = cls9 (rel γ.1) (fun g => G g ∧ g ≠ o) V (fun g => γ.2 g = true) := cl_cg (fun g hg => by rw [clr_n hg.2])
      unfold dg9
      show _ = (cls9 (rel γ.1) (fun g => G g ∧ g ≠ o) V (fun _ => True) : Int) - 2 * cls9 (rel γ.1) (fun g => G g ∧ g ≠ o) V (fun g => clr9 γ.2 o g = true) + ons9 γ.1 n - 1
      rw [L, M2, M3]
      omega
  have bdd : ∀ {γ : gn9} {r : Nat}, Sg9 n V G rel k d r γ → (∀ y, n ≤ y → γ.1 y = false) ∧ ∀ g, V ≤ g → γ.2 g = false := fun hγ => ⟨hγ.1, fun g hg => hγ.2.1 g (fun h9 => by
    have := hC.2.2.1 g h9
    omega)⟩
  have hD := cu_cg (k := k) (d := d) hC
  have k1 : ∀ r γ, Sg9 n V G rel k d r γ → γ.2 o = false → su9 (D9 P1 P2 P3 rel n γ) (fun δ => δ.2 o = false) := fun r γ hγ hc δ hδ => by
    obtain ⟨q, q1, q2⟩ := cf_mem hδ
    rw [← q2]
    exact (D9_o hal hP hγ.1 q1).trans hc
  have k2 : ∀ r γ, Sg9 n V G rel k d r γ → ¬ γ.2 o = false → su9 (D9 P1 P2 P3 rel n γ) (fun δ => ¬ δ.2 o = false) := fun r γ hγ hc δ hδ => by
    obtain ⟨q, q1, q2⟩ := cf_mem hδ
    rw [← q2]
    show ¬ q.2.2 o = false
    rw [D9_o hal hP hγ.1 q1]
    exact hc
  refine dirT (C := fun γ => γ.2 o = false) k1 k2 ?_ ?_
  · -- plus
    obtain ⟨E', N', he'⟩ := fi_en (S := fun r γ => Sg9 n V G rel k d r γ ∧ γ.2 o = false) (fun r => en_ex (n := n) (V := V) (fun γ hγ => bdd hγ.1))
    refine ⟨E', N', he', ?_⟩
    refine isoT hp hi (cu_cg hC') ⟨fun r γ hγ δ hδ => ⟨hD.1 r γ hγ.1 δ hδ, k1 r γ hγ.1 hγ.2 δ hδ⟩, fun r γ hγ => hD.2 r γ hγ.1⟩ (fun γ => γ) (fun γ => γ) (fun _ => 1) (fun _ => rfl) (fun r γ hγ => ⟨?_, rfl⟩) (fun r γ hγ => ⟨?_, rfl⟩) (fun r γ _ δ => by rw [bd_id, cf_sc, Int.one_mul]) r h1 he'
    · obtain ⟨z1, z2, z3, z4, z5⟩ := hγ
      have f := z2 o (fun h9 => h9.2 rfl)
      have := (deg γ z1).1 f
      exact ⟨⟨z1, fun g hg => z2 g (fun h9 => hg h9.1), z3, z4, by omega⟩, f⟩
    · obtain ⟨⟨z1, z2, z3, z4, z5⟩, f⟩ := hγ
      have := (deg γ z1).1 f
      refine ⟨z1, fun g hg => ?_, z3, z4, by omega⟩
      by_cases e : g = o
      · rw [e]
        exact f
      · exact z2 g (fun h9 => hg ⟨h9, e⟩)
  · -- minus
    obtain ⟨E', N', he'⟩ := fi_en (S := fun r γ => Sg9 n V G rel k d r γ ∧ ¬ γ.2 o = false) (fun r => en_ex (n := n) (V := V) (fun γ hγ => bdd hγ.1))
    refine ⟨E', N', he', ?_⟩
    have tt_of : ∀ {c : Bool}, ¬ c = false → c = true := fun {c} h => by cases c <;> simp_all
    -- with minus at o
    have hph : ∀ (γ : gn9), (∀ y, n ≤ y → γ.1 y = false) → ∀ {k : Nat}, k ≤ n → D9 P1 P2 P3 rel k (γ.1, stt9 γ.2 o true) = (D9 P1 P2 P3 rel k γ).map (fun q => (q.1, (q.2.1, stt9 q.2.2 o true))) := fun γ z1 k => by
      induction k with
      | zero => intro _; rfl
      | succ k ih =>
        intro hk
        show D9 P1 P2 P3 rel k (γ.1, stt9 γ.2 o true) ++ (if γ.1 k = true then [] else scf9 (par9 γ.1 k) (Dx9 P1 P2 P3 rel k (γ.1, stt9 γ.2 o true))) = (D9 P1 P2 P3 rel k γ ++ (if γ.1 k = true then [] else scf9 (par9 γ.1 k) (Dx9 P1 P2 P3 rel k γ))).map _
        rw [List.map_append, ih (by omega)]
        refine congrArg _ ?_
        obtain ⟨p1, p2, p3⟩ := hP k (by omega)
        have zt := on_z (n := n) (x := k) (by omega) z1
        have bt : ∀ (b : Bool) (a : Nat), a ≠ o → (fun g => stt9 γ.2 o true g || (b && dcb (rel (on9 γ.1 k) g a))) = stt9 (fun g => γ.2 g || (b && dcb (rel (on9 γ.1 k) g a))) o true := fun b a ha => funext (fun g => by
          by_cases e : g = o
          · rw [e, st_o, st_o]
            rfl
          · rw [st_n e, st_n e])
        have bt1 : ∀ a : Nat, a ≠ o → (fun g => stt9 γ.2 o true g || dcb (rel (on9 γ.1 k) g a)) = stt9 (fun g => γ.2 g || dcb (rel (on9 γ.1 k) g a)) o true := fun a ha => by
          have := bt true a ha
          simp only [Bool.true_and] at this
          exact this
        have e : Dx9 P1 P2 P3 rel k (γ.1, stt9 γ.2 o true) = (Dx9 P1 P2 P3 rel k γ).map (fun q => (q.1, (q.2.1, stt9 q.2.2 o true))) := by
          show dxv9 (rel γ.1) (rel (on9 γ.1 k)) (P1 k) (P2 k) (P3 k) (on9 γ.1 k) (stt9 γ.2 o true) = (dxv9 (rel γ.1) (rel (on9 γ.1 k)) (P1 k) (P2 k) (P3 k) (on9 γ.1 k) γ.2).map _
          unfold dxv9
          rw [st_n p1, st_n p3, bt1 _ p1, bt1 _ p2, bt _ _ p1]
          split
          · split <;> rfl
          · split <;> rfl
        split
        · rfl
        · rw [e]
          unfold scf9
          rw [List.map_map, List.map_map]
          rfl
    refine isoT hp hi (cu_cg hC') ⟨fun r γ hγ δ hδ => ⟨hD.1 r γ hγ.1 δ hδ, k2 r γ hγ.1 hγ.2 δ hδ⟩, fun r γ hγ => hD.2 r γ hγ.1⟩ (fun γ => (γ.1, stt9 γ.2 o true)) (fun γ => (γ.1, clr9 γ.2 o)) (fun _ => 1) (fun _ => rfl) (fun r γ hγ => ?_) (fun r γ hγ => ?_) (fun r γ hγ => ?_) r h2 he'
    · obtain ⟨z1, z2, z3, z4, z5⟩ := hγ
      have f := z2 o (fun h9 => h9.2 rfl)
      have al := hal γ.1 z1
      have inv : ((γ.1, clr9 (stt9 γ.2 o true) o) : gn9) = γ := Prod.ext rfl (funext (fun g => by
        show clr9 (stt9 γ.2 o true) o g = γ.2 g
        by_cases e : g = o
        · rw [e, clr_o, f]
        · rw [clr_n e, st_n e]))
      refine ⟨⟨⟨z1, fun g hg => ?_, fun g h h1 => ?_, z4, ?_⟩, ?_⟩, inv⟩
      · show stt9 γ.2 o true g = false
        rw [st_n (show g ≠ o from fun h9 => hg (h9 ▸ ho))]
        exact z2 g (fun h9 => hg h9.1)
      · show stt9 γ.2 o true g = stt9 γ.2 o true h
        have h1 : rel γ.1 g h := h1
        by_cases e : g = o
        · rw [e] at h1 ⊢
          rw [al h h1]
        · by_cases e2 : h = o
          · rw [e2] at h1
            exact absurd (al g ((hC.1.1 _).2.1 _ _ h1)) e
          · rw [st_n e, st_n e2]
            exact z3 g h h1
      · have := (deg (γ.1, stt9 γ.2 o true) z1).2 (st_o _ _ _)
        rw [show (((γ.1, stt9 γ.2 o true) : gn9).1, clr9 ((γ.1, stt9 γ.2 o true) : gn9).2 o) = γ from inv] at this
        omega
      · show ¬ stt9 γ.2 o true o = false
        rw [st_o]
        decide
    · obtain ⟨⟨z1, z2, z3, z4, z5⟩, f⟩ := hγ
      have f := tt_of f
      have al := hal γ.1 z1
      have inv : ((γ.1, stt9 (clr9 γ.2 o) o true) : gn9) = γ := Prod.ext rfl (funext (fun g => by
        show stt9 (clr9 γ.2 o) o true g = γ.2 g
        by_cases e : g = o
        · rw [e, st_o, f]
        · rw [st_n e, clr_n e]))
      refine ⟨⟨z1, fun g hg => ?_, fun g h h1 => ?_, z4, ?_⟩, inv⟩
      · show clr9 γ.2 o g = false
        by_cases e : g = o
        · rw [e, clr_o]
        · rw [clr_n e]
          exact z2 g (fun h9 => hg ⟨h9, e⟩)
      · show clr9 γ.2 o g = clr9 γ.2 o h
        have h1 : rel γ.1 g h := h1
        by_cases e : g = o
        · rw [e] at h1 ⊢
          rw [al h h1]
        · by_cases e2 : h = o
          · rw [e2] at h1
            exact absurd (al g ((hC.1.1 _).2.1 _ _ h1)) e
          · rw [clr_n e, clr_n e2]
            exact z3 g h h1
      · have := (deg γ z1).2 f
        omega
    · show eq9 (bd9 (fun δ => [(1, (δ.1, stt9 δ.2 o true))]) (D9 P1 P2 P3 rel n γ)) (scf9 1 (D9 P1 P2 P3 rel n (γ.1, stt9 γ.2 o true)))
      rw [hph γ hγ.1 (Nat.le_refl n)]
      exact bd_map (c := 1) (κ := fun δ => (δ.1, stt9 δ.2 o true)) (fun q hq => rfl)
end XCHR
