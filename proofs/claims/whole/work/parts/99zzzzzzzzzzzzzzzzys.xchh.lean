-- CHAIN: a kink of type B goes; two crossings go
section XCHP
variable {n N x o V k : Nat} {G : Nat → Prop} {P1 P2 P3 : Nat → Nat} {rel : (Nat → Bool) → Nat → Nat → Prop} {γ δ : gn9} {d p b : Int}
/-- the states with x turned are a cube -/
theorem cu_on (hn : n ≤ x) (hx : x < N) (hC : cu9 N V G P1 P2 P3 rel) (hG : ∀ s, (∀ y, n ≤ y → s y = false) → ∀ g h, rel (on9 s x) g h → g ≠ h → G g ∧ G h) : cu9 n V G P1 P2 P3 (fun s => rel (on9 s x)) := by
  refine ⟨⟨fun s => hC.1.1 _, fun s y hy hs => ?_⟩, hG, hC.2.2.1, fun y hy => hC.2.2.2 y (by omega)⟩
  have := hC.1.2 (on9 s x) y (by omega) (by rw [on_o (by omega)]; exact hs)
  rw [on_c] at this
  exact this
theorem D_on (hx : n ≤ x) (hs : γ.1 x = true) : ∀ {k : Nat}, k ≤ n → D9 P1 P2 P3 (fun s => rel (on9 s x)) k (off9 γ.1 x, γ.2) = (D9 P1 P2 P3 rel k γ).map (fun q => (q.1, (off9 q.2.1 x, q.2.2)))
  | 0, _ => rfl
  | k + 1, h => by
    show D9 P1 P2 P3 (fun s => rel (on9 s x)) k (off9 γ.1 x, γ.2) ++ (if off9 γ.1 x k = true then [] else scf9 (par9 (off9 γ.1 x) k) (Dx9 P1 P2 P3 (fun s => rel (on9 s x)) k (off9 γ.1 x, γ.2))) = (D9 P1 P2 P3 rel k γ ++ (if γ.1 k = true then [] else scf9 (par9 γ.1 k) (Dx9 P1 P2 P3 rel k γ))).map _
    rw [List.map_append, D_on hx hs (k := k) (by omega), off_o (by omega), par_off (by omega)]
    refine congrArg _ ?_
    have e : Dx9 P1 P2 P3 (fun s => rel (on9 s x)) k (off9 γ.1 x, γ.2) = (Dx9 P1 P2 P3 rel k γ).map (fun q => (q.1, (off9 q.2.1 x, q.2.2))) := by
      show dxv9 (rel (on9 (off9 γ.1 x) x)) (rel (on9 (on9 (off9 γ.1 x) k) x)) (P1 k) (P2 k) (P3 k) (on9 (off9 γ.1 x) k) γ.2 = (dxv9 (rel γ.1) (rel (on9 γ.1 k)) (P1 k) (P2 k) (P3 k) (on9 γ.1 k) γ.2).map _
      rw [on_off hs, on_c, on_off hs, ← off_on (show k ≠ x by omega)]
      unfold dxv9
      split
      · split <;> rfl
      · split <;> rfl
    split
    · rfl
    · rw [e]
      unfold scf9
      rw [List.map_map, List.map_map]
      rfl
theorem ons_hi {s : Nat → Bool} (h : ∀ y, n ≤ y → s y = false) : ∀ {m : Nat}, n ≤ m → ons9 s m = ons9 s n
  | 0, hm => by rw [show n = 0 by omega]
  | m + 1, hm => by
    by_cases e : n = m + 1
    · rw [e]
    · rw [ons_s, ons_hi h (m := m) (by omega), h m (by omega)]
      rfl
/-- a kink of type B goes -/
theorem r1B {r : Nat} (hp : pr9 p) (hi : iv9 p) (hk1 : 1 ≤ k) (hC : cu9 (n + 1) V G P1 P2 P3 rel) (ho : G o) (hk : knB n o (fun _ => True) P1 P2 P3 rel) (hb : be9 p (Sg9 (n + 1) V G rel k d) (D9 P1 P2 P3 rel (n + 1)) r b) : cu9 n V (fun g => G g ∧ g ≠ o) P1 P2 P3 (fun s => rel (on9 s n)) ∧ be9 p (Sg9 n V (fun g => G g ∧ g ≠ o) (fun s => rel (on9 s n)) (k + 1) (d - 2)) (D9 P1 P2 P3 (fun s => rel (on9 s n)) n) r b := by
  have al : ∀ s : Nat → Bool, s n = true → ∀ g, rel s o g → g = o := fun s => hk.1 s trivial
  have hC' : cu9 n V (fun g => G g ∧ g ≠ o) P1 P2 P3 (fun s => rel (on9 s n)) := by
    have h0 := cu_on (n := n) (x := n) (Nat.le_refl n) (by omega) hC (fun s hz g h h1 hne => hC.2.1 _ (fun y hy => by
      rw [on_o (by omega)]
      exact hz y (by omega)) g h h1 hne)
    refine ⟨h0.1, fun s hz g h h1 hne => ?_, fun g hg => hC.2.2.1 g hg.1, fun x hx => ?_⟩
    · obtain ⟨q1, q2⟩ := h0.2.1 s hz g h h1 hne
      have h1 : rel (on9 s n) g h := h1
      refine ⟨⟨q1, fun h9 => ?_⟩, q2, fun h9 => ?_⟩
      · rw [h9] at h1 hne
        exact hne (al _ on_x h h1).symm
      · rw [h9] at h1 hne
        exact hne (al _ on_x g ((hC.1.1 _).2.1 _ _ h1))
    · obtain ⟨a1, a2, a3⟩ := hC.2.2.2 x (by omega)
      obtain ⟨b1, b2, b3⟩ := hk.2.2.1 x (fun _ => false) hx trivial rfl
      exact ⟨⟨a1, b1⟩, ⟨a2, b2⟩, a3, b3⟩
  refine ⟨hC', ?_⟩
  obtain ⟨E2, N2, he2⟩ := fi_en (S := fun r γ => Sg9 (n + 1) V G rel k d r γ ∧ (γ.1 n = true ∧ γ.2 o = false)) (fun r => en_ex (n := n + 1) (V := V) (fun γ hγ => ⟨hγ.1.1, fun g hg => hγ.1.2.1 g (fun h9 => by
    have := hC.2.2.1 g h9
    omega)⟩))
  have nC : ∀ γ : gn9, ¬ (γ.1 n = true ∧ γ.2 o = false) → γ.1 n = true → γ.2 o = true := fun γ h h1 => by
    cases h9 : γ.2 o
    · exact absurd ⟨h1, h9⟩ h
    · rfl
  obtain ⟨hC2, hN2⟩ := subC (C := fun γ => γ.1 n = true ∧ γ.2 o = false) (h := hB9 n o (P2 n)) hp hi (cu_cg hC) (fun γ h9 => by
      have := h9.2.2.2.1
      omega) (fun r γ hγ hc δ hδ => by
      obtain ⟨q, q1, q2⟩ := cf_mem hδ
      obtain ⟨y, y1, y2, y3, c, y4⟩ := D_st q1
      have yn : y < n := by
        by_cases e : y = n
        · rw [e, hc.1] at y2
          cases y2
        · omega
      rw [← q2]
      refine ⟨by rw [y3, on_o (by omega)]; exact hc.1, (DxB_o hk trivial hc.1 yn y2 y4).trans hc.2⟩) (fun r γ hγ δ hδ => by
      unfold hB9 at hδ
      split at hδ
      · rename_i c
        rw [cf_1] at hδ
        by_cases e : lo9 n o (P2 n) γ = δ
        · rw [← e]
          exact lo_ok hC ho hk trivial hγ c.1 c.2
        · exact absurd (by rw [id_n e, Int.mul_zero]) hδ
      · exact absurd rfl hδ) (fun r γ hγ hc => by
      have : hB9 n o (P2 n) γ = [] := if_neg (fun h9 => by
        rw [hc.2] at h9
        cases h9.2)
      rw [this]
      exact eq_r) (fun r γ δ hγ hδ h1 h2 => hB_1 hC.1 hk trivial hγ.2.2.1 (nC γ h1) (nC δ h2)) r hb he2
  have hb2 : be9 p (fun r γ => Sg9 (n + 1) V G rel k d r γ ∧ (γ.1 n = true ∧ γ.2 o = false)) (D9 P1 P2 P3 rel (n + 1)) r b := ⟨E2, N2, he2, hN2⟩
  obtain ⟨E', N', he'⟩ := fi_en (Sg_en (k := k + 1) (d := d - 2) hC')
  refine ⟨E', N', he', ?_⟩
  have on_ : ∀ s : Nat → Bool, s n = true → ons9 s (n + 1) = ons9 (off9 s n) n + 1 := fun s h => by
    rw [ons_s, h, ons_cg (t := off9 s n) (fun z hz => (off_o (by omega)).symm)]
    rfl
  have deg : ∀ γ : gn9, γ.1 n = true → γ.2 o = false → dg9 (fun s => rel (on9 s n)) (fun g => G g ∧ g ≠ o) V n (off9 γ.1 n, γ.2) = dg9 rel G V (n + 1) γ - 2 := fun γ e3 e4 => by
    have L := (cls_o (Q := fun _ => True) hC.2.2.1 ho (hC.1.1 γ.1) (al _ e3)).1 trivial
    have M := (cls_o (Q := fun g => γ.2 g = true) hC.2.2.1 ho (hC.1.1 γ.1) (al _ e3)).2 (by rw [e4]; decide)
    unfold dg9
    show (cls9 (rel (on9 (off9 γ.1 n) n)) (fun g => G g ∧ g ≠ o) V (fun _ => True) : Int) - 2 * cls9 (rel (on9 (off9 γ.1 n) n)) (fun g => G g ∧ g ≠ o) V (fun g => γ.2 g = true) + ons9 (off9 γ.1 n) n = _
    rw [on_off e3, L, M, on_ _ e3]
    omega
  refine isoT hp hi hC2 (cu_cg hC') (fun γ => (off9 γ.1 n, γ.2)) (fun γ => (on9 γ.1 n, γ.2)) (fun _ => 1) (fun _ => rfl) (fun r γ hγ => ?_) (fun r γ hγ => ?_) (fun r γ hγ => ?_) r hb2 he'
  · obtain ⟨⟨z1, z2, z3, z4, z5⟩, f1, f2⟩ := hγ
    refine ⟨⟨fun y hy => ?_, fun g hg => ?_, fun g h h1 => ?_, ?_, ?_⟩, Prod.ext (on_off f1) rfl⟩
    · show off9 γ.1 n y = false
      by_cases e : y = n
      · rw [e, off_x]
      · rw [off_o e]
        exact z1 y (by omega)
    · show γ.2 g = false
      by_cases e : g = o
      · rw [e]
        exact f2
      · exact z2 g (fun h9 => hg ⟨h9, e⟩)
    · have h1 : rel (on9 (off9 γ.1 n) n) g h := h1
      rw [on_off f1] at h1
      exact z3 g h h1
    · show ons9 (off9 γ.1 n) n + (k + 1) = r
      have := on_ _ f1
      omega
    · rw [← z5]
      exact deg γ f1 f2
  · obtain ⟨z1, z2, z3, z4, z5⟩ := hγ
    have f1 := z1 n (Nat.le_refl n)
    have f2 : γ.2 o = false := z2 o (fun h9 => h9.2 rfl)
    have inv : ((off9 (on9 γ.1 n) n, γ.2) : gn9) = γ := Prod.ext (off_on2 f1) rfl
    refine ⟨⟨⟨fun y hy => ?_, fun g hg => z2 g (fun h9 => hg h9.1), fun g h h1 => z3 g h h1, ?_, ?_⟩, on_x, f2⟩, inv⟩
    · show on9 γ.1 n y = false
      rw [on_o (by omega)]
      exact z1 y (by omega)
    · show ons9 (on9 γ.1 n) (n + 1) + k = r
      rw [on_ _ on_x, off_on2 f1]
      omega
    · have := deg (on9 γ.1 n, γ.2) on_x f2
      rw [show ((off9 (on9 γ.1 n, γ.2).1 n, (on9 γ.1 n, γ.2).2) : gn9) = γ from inv, z5] at this
      omega
  · obtain ⟨⟨z1, z2, z3, z4, z5⟩, f1, f2⟩ := hγ
    have e0 : D9 P1 P2 P3 rel (n + 1) γ = D9 P1 P2 P3 rel n γ := by
      show D9 P1 P2 P3 rel n γ ++ (if γ.1 n = true then [] else scf9 (par9 γ.1 n) (Dx9 P1 P2 P3 rel n γ)) = _
      rw [if_pos f1, List.append_nil]
    rw [e0, D_on (Nat.le_refl n) f1 (Nat.le_refl n)]
    exact bd_map (c := 1) (κ := fun δ => (off9 δ.1 n, δ.2)) (fun q hq => rfl)
/-- two crossings go: n + 1 and n; o is alone where n is turned and n + 1 is not -/
theorem r2T {r : Nat} (hp : pr9 p) (hi : iv9 p) (hk1 : 1 ≤ k) (hC : cu9 (n + 2) V G P1 P2 P3 rel) (ho : G o) (hA : knW (n + 1) o (fun s => s n = true) P1 P2 P3 rel) (hB : knB n o (fun s => s (n + 1) = false) P1 P2 P3 rel) (hb : be9 p (Sg9 (n + 2) V G rel k d) (D9 P1 P2 P3 rel (n + 2)) r b) : cu9 n V G P1 P2 P3 (fun s => rel (on9 s (n + 1))) ∧ be9 p (Sg9 n V G (fun s => rel (on9 s (n + 1))) (k + 1) (d - 1)) (D9 P1 P2 P3 (fun s => rel (on9 s (n + 1))) n) r b := by
  have hC1 : cub9 (n + 1) P1 P2 P3 rel := ⟨hC.1.1, fun s x hx => hC.1.2 s x (by omega)⟩
  have hC' : cu9 n V G P1 P2 P3 (fun s => rel (on9 s (n + 1))) := cu_on (n := n) (x := n + 1) (by omega) (by omega) hC (fun s hz g h h1 hne => hC.2.1 _ (fun y hy => by
      rw [on_o (by omega)]
      exact hz y (by omega)) g h h1 hne)
  refine ⟨hC', ?_⟩
  have bd_ : ∀ {γ : gn9} {r : Nat}, Sg9 (n + 2) V G rel k d r γ → (∀ y, n + 2 ≤ y → γ.1 y = false) ∧ ∀ g, V ≤ g → γ.2 g = false := fun hγ => ⟨hγ.1, fun g hg => hγ.2.1 g (fun h9 => by
    have := hC.2.2.1 g h9
    omega)⟩
  -- first the quotient
  obtain ⟨E1, N1, he1⟩ := fi_en (S := fun r γ => Sg9 (n + 2) V G rel k d r γ ∧ ¬ KA9 (n + 1) o (fun s => s n = true) γ) (fun r => en_ex (n := n + 2) (V := V) (fun γ hγ => bd_ hγ.1))
  obtain ⟨hQ, hNQ⟩ := quoA (n := n + 1) hp hi hC hA hb he1
  have hbQ : be9 p (fun r γ => Sg9 (n + 2) V G rel k d r γ ∧ ¬ KA9 (n + 1) o (fun s => s n = true) γ) (fun γ => flt9 (KA9 (n + 1) o (fun s => s n = true)) (D9 P1 P2 P3 rel (n + 2) γ)) r b := ⟨E1, N1, he1, hNQ⟩
  -- who is not in K
  have nK : ∀ γ : gn9, ¬ KA9 (n + 1) o (fun s => s n = true) γ → γ.1 n = true → γ.1 (n + 1) = false ∧ γ.2 o = true := fun γ h h1 => by
    refine ⟨ff_of (fun h9 => h ⟨h1, Or.inl h9⟩), ?_⟩
    cases h9 : γ.2 o
    · exact absurd ⟨h1, Or.inr h9⟩ h
    · rfl
  -- then the subgroup
  obtain ⟨E2, N2, he2⟩ := fi_en (S := fun r γ => (Sg9 (n + 2) V G rel k d r γ ∧ ¬ KA9 (n + 1) o (fun s => s n = true) γ) ∧ (γ.1 n = false ∧ γ.1 (n + 1) = true)) (fun r => en_ex (n := n + 2) (V := V) (fun γ hγ => bd_ hγ.1.1))
  have st1 : ∀ γ : gn9, D9 P1 P2 P3 rel (n + 2) γ = D9 P1 P2 P3 rel (n + 1) γ ++ (if γ.1 (n + 1) = true then [] else scf9 (par9 γ.1 (n + 1)) (Dx9 P1 P2 P3 rel (n + 1) γ)) := fun _ => rfl
  have tn : ∀ (γ : gn9) q, q ∈ (if γ.1 (n + 1) = true then [] else scf9 (par9 γ.1 (n + 1)) (Dx9 P1 P2 P3 rel (n + 1) γ)) → q.2.1 (n + 1) = true := fun γ q hq => by
    split at hq
    · exact absurd hq List.not_mem_nil
    · obtain ⟨t, t1, t2⟩ := List.mem_map.mp hq
      rw [← t2]
      show t.2.1 (n + 1) = true
      rw [Dx_st t1, on_x]
  have hhz : ∀ γ : gn9, (if γ.1 (n + 1) = false then hB9 n o (P2 n) γ else []) ≠ [] → γ.1 (n + 1) = false ∧ γ.1 n = true ∧ γ.2 o = true := fun γ h => by
    split at h
    · rename_i c
      unfold hB9 at h
      split at h
      · rename_i c2
        exact ⟨c, c2⟩
      · exact absurd rfl h
    · exact absurd rfl h
  obtain ⟨hS, hNS⟩ := subC (S := fun r γ => Sg9 (n + 2) V G rel k d r γ ∧ ¬ KA9 (n + 1) o (fun s => s n = true) γ) (D := fun γ => flt9 (KA9 (n + 1) o (fun s => s n = true)) (D9 P1 P2 P3 rel (n + 2) γ)) (C := fun γ => γ.1 n = false ∧ γ.1 (n + 1) = true) (h := fun γ => if γ.1 (n + 1) = false then hB9 n o (P2 n) γ else []) hp hi hQ (fun γ h9 => by
      have := h9.1.2.2.2.1
      omega) (fun r γ hγ hc δ hδ => by
      by_cases kk : KA9 (n + 1) o (fun s => s n = true) δ
      · exact absurd (cf_fy kk) hδ
      · rw [cf_fn kk] at hδ
        obtain ⟨q, q1, q2⟩ := cf_mem hδ
        obtain ⟨y, y1, y2, y3, c, y4⟩ := D_st q1
        have y5 : y ≠ n + 1 := fun e => by
          rw [e, hc.2] at y2
          cases y2
        have d1 : δ.1 (n + 1) = true := by
          rw [← q2, y3, on_o (fun h9 => y5 h9.symm)]
          exact hc.2
        refine ⟨ff_of (fun h9 => kk ⟨h9, Or.inl d1⟩), d1⟩) (fun r γ hγ δ hδ => by
      have hne : (if γ.1 (n + 1) = false then hB9 n o (P2 n) γ else []) ≠ [] := fun h9 => by
        have hδ : cf9 (if γ.1 (n + 1) = false then hB9 n o (P2 n) γ else []) δ ≠ 0 := hδ
        rw [h9] at hδ
        exact hδ rfl
      obtain ⟨c0, c1, c2⟩ := hhz γ hne
      have e1 : (if γ.1 (n + 1) = false then hB9 n o (P2 n) γ else []) = [(par9 γ.1 n, lo9 n o (P2 n) γ)] := (if_pos c0).trans (if_pos ⟨c1, c2⟩)
      have hδ : cf9 (if γ.1 (n + 1) = false then hB9 n o (P2 n) γ else []) δ ≠ 0 := hδ
      rw [e1, cf_1] at hδ
      by_cases e : lo9 n o (P2 n) γ = δ
      · rw [← e]
        have of0 : (lo9 n o (P2 n) γ).1 n = false := off_x
        refine ⟨?_, fun h9 => ?_⟩
        · -- as a generator of the cube
          obtain ⟨z1, z2, z3, z4, z5⟩ := hγ.1
          obtain ⟨q1, q2, q3⟩ := knB_s hC1 hB c0 c1
          have a1 : ∀ y, n + 2 ≤ y → (lo9 n o (P2 n) γ).1 y = false := fun y hy => by
            show off9 γ.1 n y = false
            rw [off_o (by omega)]
            exact z1 y hy
          have a2 : ∀ g, ¬ G g → (lo9 n o (P2 n) γ).2 g = false := fun g hg => by
            show stt9 γ.2 o (γ.2 (P2 n)) g = false
            rw [st_n (show g ≠ o from fun h9 => hg (h9 ▸ ho))]
            exact z2 g hg
          have a3 : vl9 rel (lo9 n o (P2 n) γ) := fun g h h1 => by
            have h1 : rel (off9 γ.1 n) g h := h1
            show stt9 γ.2 o (γ.2 (P2 n)) g = stt9 γ.2 o (γ.2 (P2 n)) h
            by_cases e9 : g = o
            · rw [e9] at h1 ⊢
              by_cases e8 : h = o
              · rw [e8]
              · rw [st_o, st_n e8]
                exact z3 _ _ ((knB_o hC1 hB c0 c1 e8).mp h1)
            · by_cases e8 : h = o
              · rw [e8] at h1 ⊢
                rw [st_o, st_n e9]
                exact (z3 _ _ ((knB_o hC1 hB c0 c1 e9).mp ((hC.1.1 _).2.1 _ _ h1))).symm
              · rw [st_n e9, st_n e8]
                exact z3 g h ((knB_r hC1 hB c0 c1 e9 e8).mp h1)
          have q := Dx_ok (c := 1) (δ := γ) (k := k) (d := dg9 rel G V (n + 2) (lo9 n o (P2 n) γ)) (r := ons9 (lo9 n o (P2 n) γ).1 (n + 2) + k) (x := n) hC (by omega) ⟨a1, a2, a3, rfl, rfl⟩ of0 (DnB hC1 hB c0 c1 c2).1
          have q4 := q.2.2.2.1
          have q5 := q.2.2.2.2
          exact ⟨a1, a2, a3, by omega, by rw [← q5]; exact z5⟩
        · have h9 : (lo9 n o (P2 n) γ).1 n = true := h9.1
          rw [of0] at h9
          cases h9
      · exact absurd (by rw [id_n e, Int.mul_zero]) hδ) (fun r γ hγ hc => by
      have : (if γ.1 (n + 1) = false then hB9 n o (P2 n) γ else []) = [] := if_neg (by rw [hc.2]; decide)
      show eq9 (if γ.1 (n + 1) = false then hB9 n o (P2 n) γ else []) []
      rw [this]
      exact eq_r) (fun r γ δ hγ hδ h1 h2 => by
      -- n + 1 is not turned in either
      have f1 : ∀ ε : gn9, ¬ KA9 (n + 1) o (fun s => s n = true) ε → ¬ (ε.1 n = false ∧ ε.1 (n + 1) = true) → ε.1 (n + 1) = false := fun ε k1 k2 => by
        by_cases c : ε.1 n = true
        · exact (nK ε k1 c).1
        · exact ff_of (fun h9 => k2 ⟨ff_of c, h9⟩)
      have g1 := f1 γ hγ.2 h1
      have d1 := f1 δ hδ.2 h2
      have key := hB_1 (δ := δ) hC1 hB (γ := γ) g1 hγ.1.2.2.1 (fun h9 => (nK γ hγ.2 h9).2) (fun h9 => (nK δ hδ.2 h9).2)
      rw [cf_a] at key ⊢
      rw [← key]
      have hg : (if γ.1 (n + 1) = false then hB9 n o (P2 n) γ else []) = hB9 n o (P2 n) γ := if_pos g1
      have p1 : cf9 (bd9 (fun γ => flt9 (KA9 (n + 1) o (fun s => s n = true)) (D9 P1 P2 P3 rel (n + 2) γ)) (if γ.1 (n + 1) = false then hB9 n o (P2 n) γ else [])) δ = cf9 (bd9 (D9 P1 P2 P3 rel (n + 1)) (hB9 n o (P2 n) γ)) δ := by
        rw [hg]
        refine bd_su δ (fun ε _ => ?_)
        rw [cf_fn hδ.2, st1, cf_a]
        have : cf9 (if ε.1 (n + 1) = true then [] else scf9 (par9 ε.1 (n + 1)) (Dx9 P1 P2 P3 rel (n + 1) ε)) δ = 0 := by
          by_cases c : cf9 (if ε.1 (n + 1) = true then [] else scf9 (par9 ε.1 (n + 1)) (Dx9 P1 P2 P3 rel (n + 1) ε)) δ = 0
          · exact c
          · obtain ⟨q, q1, q2⟩ := cf_mem c
            have := tn ε q q1
            rw [q2, d1] at this
            cases this
        omega
      have p2 : cf9 (bd9 (fun γ => if γ.1 (n + 1) = false then hB9 n o (P2 n) γ else []) (flt9 (KA9 (n + 1) o (fun s => s n = true)) (D9 P1 P2 P3 rel (n + 2) γ))) δ = cf9 (bd9 (hB9 n o (P2 n)) (D9 P1 P2 P3 rel (n + 1) γ)) δ := by
        rw [← bd_q (flt_bd (K := KA9 (n + 1) o (fun s => s n = true)) (D9 P1 P2 P3 rel (n + 2) γ)) δ, bb_c]
        have a1 : cf9 (bd9 (fun ε => bd9 (fun γ => if γ.1 (n + 1) = false then hB9 n o (P2 n) γ else []) (flt9 (KA9 (n + 1) o (fun s => s n = true)) [(1, ε)])) (D9 P1 P2 P3 rel (n + 2) γ)) δ = cf9 (bd9 (fun ε => if ε.1 (n + 1) = false then hB9 n o (P2 n) ε else []) (D9 P1 P2 P3 rel (n + 2) γ)) δ := bd_su δ (fun ε _ => by
          by_cases c : KA9 (n + 1) o (fun s => s n = true) ε
          · have q : flt9 (KA9 (n + 1) o (fun s => s n = true)) [(1, ε)] = [] := List.filter_cons_of_neg (by rw [dcb_t.mpr c]; decide)
            rw [q]
            have q2 : (if ε.1 (n + 1) = false then hB9 n o (P2 n) ε else []) = [] := by
              by_cases c3 : (if ε.1 (n + 1) = false then hB9 n o (P2 n) ε else []) = []
              · exact c3
              · obtain ⟨w0, w1, w2⟩ := hhz ε c3
                rcases c.2 with h8 | h8
                · rw [w0] at h8
                  cases h8
                · rw [w2] at h8
                  cases h8
            rw [q2]
            rfl
          · have q : flt9 (KA9 (n + 1) o (fun s => s n = true)) [(1, ε)] = [(1, ε)] := List.filter_cons_of_pos (by rw [dcb_f.mpr c]; rfl)
            rw [q]
            exact bd_1 (f := fun γ => if γ.1 (n + 1) = false then hB9 n o (P2 n) γ else []) ε δ)
        rw [a1, st1, bd_a rfl δ, cf_a]
        have a2 : cf9 (bd9 (fun ε => if ε.1 (n + 1) = false then hB9 n o (P2 n) ε else []) (if γ.1 (n + 1) = true then [] else scf9 (par9 γ.1 (n + 1)) (Dx9 P1 P2 P3 rel (n + 1) γ))) δ = 0 := bd_nil (fun q hq => if_neg (by rw [tn γ q hq]; decide)) δ
        have a3 : cf9 (bd9 (fun ε => if ε.1 (n + 1) = false then hB9 n o (P2 n) ε else []) (D9 P1 P2 P3 rel (n + 1) γ)) δ = cf9 (bd9 (hB9 n o (P2 n)) (D9 P1 P2 P3 rel (n + 1) γ)) δ := bd_su δ (fun ε hε => by
          obtain ⟨q, q1, q2⟩ := cf_mem hε
          obtain ⟨y, y1, y2, y3, -⟩ := D_st q1
          rw [if_pos (by rw [← q2, y3, on_o (by omega)]; exact g1)])
        rw [a2, a3]
        omega
      rw [p1, p2]) r hbQ he2
  have hb2 : be9 p (fun r γ => (Sg9 (n + 2) V G rel k d r γ ∧ ¬ KA9 (n + 1) o (fun s => s n = true) γ) ∧ (γ.1 n = false ∧ γ.1 (n + 1) = true)) (fun γ => flt9 (KA9 (n + 1) o (fun s => s n = true)) (D9 P1 P2 P3 rel (n + 2) γ)) r b := ⟨E2, N2, he2, hNS⟩
  obtain ⟨E', N', he'⟩ := fi_en (Sg_en (k := k + 1) (d := d - 1) hC')
  refine ⟨E', N', he', ?_⟩
  have on_ : ∀ s : Nat → Bool, s n = false → s (n + 1) = true → ons9 s (n + 2) = ons9 (off9 s (n + 1)) n + 1 := fun s h h1 => by
    rw [ons_s, ons_s, h, h1, ons_cg (t := off9 s (n + 1)) (fun z hz => (off_o (by omega)).symm)]
    rfl
  have deg : ∀ γ : gn9, γ.1 n = false → γ.1 (n + 1) = true → dg9 (fun s => rel (on9 s (n + 1))) G V n (off9 γ.1 (n + 1), γ.2) = dg9 rel G V (n + 2) γ - 1 := fun γ e3 e4 => by
    unfold dg9
    show (cls9 (rel (on9 (off9 γ.1 (n + 1)) (n + 1))) G V (fun _ => True) : Int) - 2 * cls9 (rel (on9 (off9 γ.1 (n + 1)) (n + 1))) G V (fun g => γ.2 g = true) + ons9 (off9 γ.1 (n + 1)) n = _
    rw [on_off e4, on_ _ e3 e4]
    omega
  refine isoT hp hi hS (cu_cg hC') (fun γ => (off9 γ.1 (n + 1), γ.2)) (fun γ => (on9 γ.1 (n + 1), γ.2)) (fun _ => 1) (fun _ => rfl) (fun r γ hγ => ?_) (fun r γ hγ => ?_) (fun r γ hγ => ?_) r hb2 he'
  · obtain ⟨⟨⟨z1, z2, z3, z4, z5⟩, -⟩, f1, f2⟩ := hγ
    refine ⟨⟨fun y hy => ?_, z2, fun g h h1 => ?_, ?_, ?_⟩, Prod.ext (on_off f2) rfl⟩
    · show off9 γ.1 (n + 1) y = false
      by_cases e : y = n + 1
      · rw [e, off_x]
      · rw [off_o e]
        by_cases e2 : y = n
        · rw [e2]
          exact f1
        · exact z1 y (by omega)
    · have h1 : rel (on9 (off9 γ.1 (n + 1)) (n + 1)) g h := h1
      rw [on_off f2] at h1
      exact z3 g h h1
    · show ons9 (off9 γ.1 (n + 1)) n + (k + 1) = r
      have := on_ _ f1 f2
      omega
    · rw [← z5]
      exact deg γ f1 f2
  · obtain ⟨z1, z2, z3, z4, z5⟩ := hγ
    have f0 := z1 n (Nat.le_refl n)
    have f1 := z1 (n + 1) (by omega)
    have f2 : on9 γ.1 (n + 1) n = false := by rw [on_o (by omega)]; exact f0
    have inv : ((off9 (on9 γ.1 (n + 1)) (n + 1), γ.2) : gn9) = γ := Prod.ext (off_on2 f1) rfl
    refine ⟨⟨⟨⟨fun y hy => ?_, z2, fun g h h1 => z3 g h h1, ?_, ?_⟩, fun h9 => ?_⟩, f2, on_x⟩, inv⟩
    · show on9 γ.1 (n + 1) y = false
      rw [on_o (by omega)]
      exact z1 y (by omega)
    · show ons9 (on9 γ.1 (n + 1)) (n + 2) + k = r
      rw [on_ _ f2 on_x, off_on2 f1]
      omega
    · have := deg (on9 γ.1 (n + 1), γ.2) f2 on_x
      rw [show ((off9 (on9 γ.1 (n + 1), γ.2).1 (n + 1), (on9 γ.1 (n + 1), γ.2).2) : gn9) = γ from inv, z5] at this
      omega
    · have h9 : on9 γ.1 (n + 1) n = true := h9.1
      rw [f2] at h9
      cases h9
  · obtain ⟨⟨⟨z1, z2, z3, z4, z5⟩, -⟩, f1, f2⟩ := hγ
    have e0 : D9 P1 P2 P3 rel (n + 2) γ = D9 P1 P2 P3 rel n γ ++ scf9 (par9 γ.1 n) (Dx9 P1 P2 P3 rel n γ) := by
      rw [st1, if_pos f2, List.append_nil]
      show D9 P1 P2 P3 rel n γ ++ (if γ.1 n = true then [] else scf9 (par9 γ.1 n) (Dx9 P1 P2 P3 rel n γ)) = _
      rw [if_neg (by rw [f1]; decide)]
    have e1 : flt9 (KA9 (n + 1) o (fun s => s n = true)) (D9 P1 P2 P3 rel (n + 2) γ) = D9 P1 P2 P3 rel n γ := by
      rw [e0]
      unfold flt9
      rw [List.filter_append]
      have q1 : (D9 P1 P2 P3 rel n γ).filter (fun q => !dcb (KA9 (n + 1) o (fun s => s n = true) q.2)) = D9 P1 P2 P3 rel n γ := List.filter_eq_self.mpr (fun q hq => by
        obtain ⟨y, y1, y2, y3, c, y4⟩ := D_st hq
        rw [dcb_f.mpr (fun h9 => ?_)]
        · rfl
        · have h8 : q.2.1 n = true := h9.1
          rw [y3, on_o (by omega), f1] at h8
          cases h8)
      have q2 : (scf9 (par9 γ.1 n) (Dx9 P1 P2 P3 rel n γ)).filter (fun q => !dcb (KA9 (n + 1) o (fun s => s n = true) q.2)) = [] := List.filter_eq_nil_iff.mpr (fun q hq => by
        obtain ⟨t, t1, t2⟩ := List.mem_map.mp hq
        have := Dx_st t1
        rw [← t2]
        have kk : KA9 (n + 1) o (fun s => s n = true) t.2 := ⟨by show t.2.1 n = true; rw [this, on_x], Or.inl (by rw [this, on_o (by omega)]; exact f2)⟩
        rw [dcb_t.mpr kk]
        decide)
      rw [q1, q2, List.append_nil]
    show eq9 (bd9 (fun δ => [(1, (off9 δ.1 (n + 1), δ.2))]) (flt9 (KA9 (n + 1) o (fun s => s n = true)) (D9 P1 P2 P3 rel (n + 2) γ))) (scf9 1 (D9 P1 P2 P3 (fun s => rel (on9 s (n + 1))) n (off9 γ.1 (n + 1), γ.2)))
    rw [e1, D_on (n := n) (x := n + 1) (by omega) f2 (Nat.le_refl n)]
    exact bd_map (c := 1) (κ := fun δ => (off9 δ.1 (n + 1), δ.2)) (fun q hq => rfl)
end XCHP
