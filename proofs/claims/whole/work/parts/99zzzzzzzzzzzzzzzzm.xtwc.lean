/-! two: three letters: the values -/
section XTWC
variable {n g x y w : Nat} {W A B : wd9} {L : List (List tk9)}
theorem nd_pos {l : List tk9} {i j : Nat} {p : tk9} (hn : l.Nodup) (h1 : l[i]? = some p) (h2 : l[j]? = some p) : i = j := by
  obtain ⟨a1, a2⟩ := List.getElem?_eq_some_iff.mp h1
  obtain ⟨b1, b2⟩ := List.getElem?_eq_some_iff.mp h2
  have hp := List.pairwise_iff_getElem.mp hn
  rcases Nat.lt_trichotomy i j with h | h | h
  · exact absurd (a2.trans b2.symm) (hp i j a1 b1 h)
  · exact h
  · exact absurd (b2.trans a2.symm) (hp j i b1 a1 h)
/-- the first visit, by places -/
theorem pos_fv {z j i1 i0 : Nat} (hL : orz n W L) (h : fvz L.flatten z j) (h1 : L.flatten[i1]? = some (z, 1)) (h0 : L.flatten[i0]? = some (z, 0)) : (j = 1 ↔ i1 < i0) := by
  obtain ⟨a, c, e, h2, h3⟩ := h
  have hj : L.flatten[a.length]? = some (z, j) := by
    rw [e, List.getElem?_append_right (Nat.le_refl _), Nat.sub_self]
    rfl
  have big : ∀ k i, L.flatten[k]? = some (z, i) → i ≠ 2 → a.length ≤ k := fun k i hk hi => by
    rcases Nat.lt_or_ge k a.length with h9 | h9
    · exfalso
      rw [e, List.getElem?_append_left h9] at hk
      rcases h3 _ (List.mem_of_getElem? hk) with h8 | h8
      · exact hi h8
      · exact h8 rfl
    · exact h9
  have b1 := big i1 1 h1 (by decide)
  have b0 := big i0 0 h0 (by decide)
  have hne : i1 ≠ i0 := fun h9 => by
    rw [h9, h0] at h1
    exact absurd (Prod.mk.inj (Option.some.inj h1)).2 (by decide)
  constructor
  · intro e1
    rw [e1] at hj
    have := nd_pos hL.2.1 hj h1
    omega
  · intro hlt
    have hm : (z, j) ∈ L.flatten := List.mem_of_getElem? hj
    rcases (hL.2.2 _).mp hm with ⟨h9, -⟩ | ⟨h9, -⟩
    · exact absurd h9 h2
    · have h9 : j < 2 := h9
      rcases (show j = 0 ∨ j = 1 by omega) with e1 | e1
      · rw [e1] at hj
        have := nd_pos hL.2.1 hj h0
        omega
      · exact e1
theorem tkp_ex {p : tk9} (h : p ∈ L.flatten) : ∃ k : Nat, L.flatten[k]? = some p := List.getElem?_of_mem h
theorem gd_p1 {ov : Nat → Bool} {z i1 i0 : Nat} (hL : orz n W L) (hg : gdz L ov) (h1 : L.flatten[i1]? = some (z, 1)) (h0 : L.flatten[i0]? = some (z, 0)) : ov z = decide (i1 < i0) := by
  obtain ⟨j, hj⟩ := fv_ex (i := 1) (List.mem_of_getElem? h1) (by decide)
  rw [hg z j hj]
  exact decide_eq_decide.mpr (pos_fv hL hj h1 h0)
theorem gd_p2 {ov : Nat → Bool} (hL : orz n W L) (h : ∀ z i1 i0 : Nat, L.flatten[i1]? = some (z, 1) → L.flatten[i0]? = some (z, 0) → ov z = decide (i1 < i0)) : gdz L ov := fun z j hj => by
  have hz : z ∈ nmz W := fs_nm hL (p := (z, decide (j = 1))) (fsz_m.mpr ⟨List.not_mem_nil, j, hj, rfl⟩)
  obtain ⟨i1, h1⟩ := tkp_ex ((hL.2.2 (z, 1)).mpr (Or.inr ⟨by omega, hz⟩))
  obtain ⟨i0, h0⟩ := tkp_ex ((hL.2.2 (z, 0)).mpr (Or.inr ⟨by omega, hz⟩))
  rw [h z i1 i0 h1 h0]
  exact (decide_eq_decide.mpr (pos_fv hL hj h1 h0)).symm
/-- layered -/
def lay (a b c : Bool) : Prop := a = c → b = a
theorem lay_st : ∀ a b c a' b' c' : Bool, (a = c → b = a) → (a' = c' → b' = a') → ¬ (a = a' ∧ b = b' ∧ c = c') → (a ≠ a' ∧ ((!a) = c → b = !a)) ∨ (b ≠ b' ∧ (a = c → (!b) = a)) ∨ (c ≠ c' ∧ (a = (!c) → b = a)) := by
  intro a b c a' b' c'
  cases a <;> cases b <;> cases c <;> cases a' <;> cases b' <;> cases c' <;> simp
/-- from one layered pattern to another -/
theorem lay_go {D : (Nat → Bool) → Prop} (hxy : x ≠ y) (hxw : x ≠ w) (hyw : y ≠ w) (hD : ∀ ov z, z = x ∨ z = y ∨ z = w → lay (ov x) (ov y) (ov w) → lay (flz ov z x) (flz ov z y) (flz ov z w) → D ov → D (flz ov z)) (ov1 : Nat → Bool) (h1 : lay (ov1 x) (ov1 y) (ov1 w)) : ∀ (m : Nat) (ov : Nat → Bool), (if ov x = ov1 x then 0 else 1) + (if ov y = ov1 y then 0 else 1) + (if ov w = ov1 w then 0 else 1) ≤ m → lay (ov x) (ov y) (ov w) → D ov → (∀ z, z ≠ x → z ≠ y → z ≠ w → ov z = ov1 z) → D ov1 := by
  intro m
  induction m with
  | zero =>
    intro ov hm hl hd ho
    have e : ov = ov1 := funext (fun z => by
      by_cases zx : z = x
      · rw [zx]
        by_cases c : ov x = ov1 x
        · exact c
        · rw [if_neg c] at hm
          omega
      · by_cases zy : z = y
        · rw [zy]
          by_cases c : ov y = ov1 y
          · exact c
          · rw [if_neg c] at hm
            omega
        · by_cases zw : z = w
          · rw [zw]
            by_cases c : ov w = ov1 w
            · exact c
            · rw [if_neg c] at hm
              omega
          · exact ho z zx zy zw)
    rw [← e]
    exact hd
  | succ m ih =>
    intro ov hm hl hd ho
    by_cases c : ov x = ov1 x ∧ ov y = ov1 y ∧ ov w = ov1 w
    · exact ih ov (by rw [if_pos c.1, if_pos c.2.1, if_pos c.2.2]; omega) hl hd ho
    · have fx : flz ov x x = !ov x := flz_at ov x
      have fy : flz ov y y = !ov y := flz_at ov y
      have fw : flz ov w w = !ov w := flz_at ov w
      have nn : ∀ a b : Bool, a ≠ b → (!a) = b := fun a b => by cases a <;> cases b <;> simp
      rcases lay_st _ _ _ _ _ _ hl h1 c with ⟨d1, d2⟩ | ⟨d1, d2⟩ | ⟨d1, d2⟩
      · have l2 : lay (flz ov x x) (flz ov x y) (flz ov x w) := by
          rw [fx, flz_ot (Ne.symm hxy), flz_ot (Ne.symm hxw)]
          exact d2
        refine ih (flz ov x) ?_ l2 (hD ov x (Or.inl rfl) hl l2 hd) (fun z zx zy zw => by rw [flz_ot zx]; exact ho z zx zy zw)
        rw [fx, flz_ot (Ne.symm hxy), flz_ot (Ne.symm hxw), if_pos (nn _ _ d1)]
        rw [if_neg d1] at hm
        omega
      · have l2 : lay (flz ov y x) (flz ov y y) (flz ov y w) := by
          rw [fy, flz_ot hxy, flz_ot (Ne.symm hyw)]
          exact d2
        refine ih (flz ov y) ?_ l2 (hD ov y (Or.inr (Or.inl rfl)) hl l2 hd) (fun z zx zy zw => by rw [flz_ot zy]; exact ho z zx zy zw)
        rw [fy, flz_ot hxy, flz_ot (Ne.symm hyw), if_pos (nn _ _ d1)]
        rw [if_neg d1] at hm
        omega
      · have l2 : lay (flz ov w x) (flz ov w y) (flz ov w w) := by
          rw [fw, flz_ot hxw, flz_ot hyw]
          exact d2
        refine ih (flz ov w) ?_ l2 (hD ov w (Or.inr (Or.inr rfl)) hl l2 hd) (fun z zx zy zw => by rw [flz_ot zw]; exact ho z zx zy zw)
        rw [fw, flz_ot hxw, flz_ot hyw, if_pos (nn _ _ d1)]
        rw [if_neg d1] at hm
        omega
end XTWC
